/-! ===== the law: one call of both (by gen_law2.py) ===== -/
def OKm (M : Mem) : Prop := Inv M M ∧ (M 27 15 = 0 ∨ M 27 15 = 1)
theorem Inv_x {C C' R R' : Mem} (hC : ∀ c k, c ≤ 80 → C' c k = C c k) (hR : ∀ c k, 81 ≤ c → R' c k = R c k) (h : Inv C R) : Inv C' R' :=
  Inv_q (fun c k z => hC c k (by omega)) (fun c k z => hR c k (by
    unfold prR at z
    rw [Bool.and_eq_true, decide_eq_true_eq] at z
    exact z.1)) h
theorem st_mm0 {X R : Mem → Option (Int × Mem)} (hop : ∀ C R0, Inv C R0 → (C 27 15 = 0 ∨ C 27 15 = 1) → ∃ v C' R', X C = some (v, C') ∧ R R0 = some (v, R') ∧ Inv C' R' ∧ (C' 27 15 = 0 ∨ C' 27 15 = 1)) (hX : ∀ C v C', X C = some (v, C') → ∀ c k, 81 ≤ c → C' c k = C c k) (hR : ∀ C v C', R C = some (v, C') → ∀ c k, c ≤ 80 → C' c k = C c k) {M : Mem} (h : OKm M) : ∃ v C' R', X M = some (v, C') ∧ R C' = some (v, R') ∧ OKm R' := by
  obtain ⟨h, h15⟩ := h
  obtain ⟨v, C', R0, e1, -, -, b⟩ := hop M M h h15
  have h2 : Inv M C' := Inv_x (fun _ _ _ => rfl) (fun c k z => hX M v C' e1 c k z) h
  obtain ⟨v2, C2, R', e3, e4, hI, b2⟩ := hop M C' h2 h15
  rw [e1] at e3
  cases e3
  refine ⟨v, C', R', e1, e4, Inv_x (fun c k z => hR C' v R' e4 c k z) (fun _ _ _ => rfl) hI, ?_⟩
  rw [hR C' v R' e4 27 15 (by omega)]
  exact b
theorem st_mm {X R : Mem → Option (Int × Mem)} (hop : ∀ C R0, Inv C R0 → ∃ v C' R', X C = some (v, C') ∧ R R0 = some (v, R') ∧ Inv C' R') (hX : ∀ C v C', X C = some (v, C') → ∀ c k, 81 ≤ c ∨ (c = 27 ∧ k = 15) → C' c k = C c k) (hR : ∀ C v C', R C = some (v, C') → ∀ c k, c ≤ 80 → C' c k = C c k) {M : Mem} (h : OKm M) : ∃ v C' R', X M = some (v, C') ∧ R C' = some (v, R') ∧ OKm R' := by
  refine st_mm0 (fun C R0 hI h15 => ?_) (fun C v C' e c k z => hX C v C' e c k (Or.inl z)) hR h
  obtain ⟨v, C', R', e1, e2, e3⟩ := hop C R0 hI
  exact ⟨v, C', R', e1, e2, e3, by rw [hX C v C' e1 27 15 (Or.inr ⟨rfl, rfl⟩)]; exact h15⟩
theorem st_pm {X : Mem → Option Int} {R : Mem → Option (Int × Mem)} (hop : ∀ C R0, Inv C R0 → ∃ v R', X C = some v ∧ R R0 = some (v, R') ∧ Inv C R') (hR : ∀ C v C', R C = some (v, C') → ∀ c k, c ≤ 80 → C' c k = C c k) {M : Mem} (h : OKm M) : ∃ v R', X M = some v ∧ R M = some (v, R') ∧ OKm R' := by
  obtain ⟨h, h15⟩ := h
  obtain ⟨v, R', e1, e2, hI⟩ := hop M M h
  refine ⟨v, R', e1, e2, Inv_x (fun c k z => hR M v R' e2 c k z) (fun _ _ _ => rfl) hI, ?_⟩
  rw [hR M v R' e2 27 15 (by omega)]
  exact h15
theorem st_mp {X : Mem → Option (Int × Mem)} {R : Mem → Option Int} (hop : ∀ C R0, Inv C R0 → ∃ v C', X C = some (v, C') ∧ R R0 = some v ∧ Inv C' R0) (hX : ∀ C v C', X C = some (v, C') → ∀ c k, 81 ≤ c ∨ (c = 27 ∧ k = 15) → C' c k = C c k) {M : Mem} (h : OKm M) : ∃ v C', X M = some (v, C') ∧ R C' = some v ∧ OKm C' := by
  obtain ⟨h, h15⟩ := h
  obtain ⟨v, C', e1, -, hI⟩ := hop M M h
  have h2 : Inv M C' := Inv_x (fun _ _ _ => rfl) (fun c k z => hX M v C' e1 c k (Or.inl z)) h
  obtain ⟨v2, C2, e3, e4, hI2⟩ := hop M C' h2
  rw [e1] at e3
  cases e3
  exact ⟨v, C', e1, e4, hI2, by rw [hX M v C' e1 27 15 (Or.inr ⟨rfl, rfl⟩)]; exact h15⟩
theorem bo_ex {a : Int} : ∃ v : Int, (v = 0 ∨ v = 1) ∧ (if ¬ n32 a = 0 then some (1 : Int) else some (0 : Int)) = some v := by
  by_cases q : ¬ n32 a = 0
  · exact ⟨1, Or.inr rfl, if_pos q⟩
  · exact ⟨0, Or.inl rfl, if_neg q⟩

theorem st_feed {M : Mem} {a b c d e : Int}  (h : OKm M) : ∃ v C' R', X_feed a b c d e M = some (v, C') ∧ M_feed a b c d e C' = some (v, R') ∧ OKm R' :=
  st_mm (fun C R0 hI => op_feed hI a b c d e) (fun C v C' e c k z => fk_X_feed e c k (by
    cases hh : ws_X_feed c k with
    | false => rfl
    | true => exact absurd z (by simp [ws_X_feed] at hh; omega))) (fun C v C' e c k z => fk_M_feed e c k (by
    cases hh : ws_M_feed c k with
    | false => rfl
    | true => exact absurd z (by simp [ws_M_feed] at hh; omega))) h
theorem st_end {M : Mem} {x : Int} (hx : n32 x = x) (h : OKm M) : ∃ v C' R', X_end x M = some (v, C') ∧ M_end x C' = some (v, R') ∧ OKm R' :=
  st_mm (fun C R0 hI => op_end hI hx) (fun C v C' e c k z => fk_X_end e c k (by
    cases hh : ws_X_end c k with
    | false => rfl
    | true => exact absurd z (by simp [ws_X_end] at hh; omega))) (fun C v C' e c k z => fk_M_end e c k (by
    cases hh : ws_M_end c k with
    | false => rfl
    | true => exact absurd z (by simp [ws_M_end] at hh; omega))) h
theorem st_town {M : Mem} (h : OKm M) : ∃ v C' R', X_town M = some (v, C') ∧ M_town C' = some (v, R') ∧ OKm R' :=
  st_mm0 (fun C R0 hI h15 => op_town hI h15) (fun C v C' e c k z => fk_X_town e c k (by
    cases hh : ws_X_town c k with
    | false => rfl
    | true => exact absurd z (by simp [ws_X_town] at hh; omega))) (fun C v C' e c k z => fk_M_town e c k (by
    cases hh : ws_M_town c k with
    | false => rfl
    | true => exact absurd z (by simp [ws_M_town] at hh; omega))) h
theorem st_lies {M : Mem} {x a s : Int} (hx : n32 x = x) (ha : a = 0 ∨ a = 1) (hs : s = 0 ∨ s = 1) (h : OKm M) : ∃ v R', X_lies x a s M = some v ∧ M_lies x a s M = some (v, R') ∧ OKm R' :=
  st_pm (fun C R0 hI => op_lies hI hx ha hs) (fun C v C' e c k z => fk_M_lies e c k (by
    cases hh : ws_M_lies c k with
    | false => rfl
    | true => exact absurd z (by simp [ws_M_lies] at hh; omega))) h
theorem st_may {M : Mem} {x y a s w : Int} (hx : n32 x = x) (hy : n32 y = y) (hw : n32 w = w) (ha : a = 0 ∨ a = 1) (hs : s = 0 ∨ s = 1) (h : OKm M) : ∃ v C' R', X_may x y a s w M = some (v, C') ∧ M_may x y a s w C' = some (v, R') ∧ OKm R' :=
  st_mm (fun C R0 hI => op_may hI hx hy hw ha hs) (fun C v C' e c k z => fk_X_may e c k (by
    cases hh : ws_X_may c k with
    | false => rfl
    | true => exact absurd z (by simp [ws_X_may] at hh; omega))) (fun C v C' e c k z => fk_M_may e c k (by
    cases hh : ws_M_may c k with
    | false => rfl
    | true => exact absurd z (by simp [ws_M_may] at hh; omega))) h
theorem st_say {M : Mem} {x y a s : Int} (hx : n32 x = x) (hy : n32 y = y) (ha : a = 0 ∨ a = 1) (hs : s = 0 ∨ s = 1) (h : OKm M) : ∃ v C' R', X_say x y a s M = some (v, C') ∧ M_say x y a s C' = some (v, R') ∧ OKm R' :=
  st_mm (fun C R0 hI => op_say hI hx hy ha hs) (fun C v C' e c k z => fk_X_say e c k (by
    cases hh : ws_X_say c k with
    | false => rfl
    | true => exact absurd z (by simp [ws_X_say] at hh; omega))) (fun C v C' e c k z => fk_M_say e c k (by
    cases hh : ws_M_say c k with
    | false => rfl
    | true => exact absurd z (by simp [ws_M_say] at hh; omega))) h
theorem st_untell {M : Mem} {x : Int} (hx : n32 x = x) (h : OKm M) : ∃ v C' R', X_untell x M = some (v, C') ∧ M_untell x C' = some (v, R') ∧ OKm R' :=
  st_mm (fun C R0 hI => op_untell hI hx) (fun C v C' e c k z => fk_X_untell e c k (by
    cases hh : ws_X_untell c k with
    | false => rfl
    | true => exact absurd z (by simp [ws_X_untell] at hh; omega))) (fun C v C' e c k z => fk_M_untell e c k (by
    cases hh : ws_M_untell c k with
    | false => rfl
    | true => exact absurd z (by simp [ws_M_untell] at hh; omega))) h
theorem st_later {M : Mem} {x : Int} (hx : n32 x = x) (h : OKm M) : ∃ v C' R', X_later x M = some (v, C') ∧ M_later x C' = some (v, R') ∧ OKm R' :=
  st_mm (fun C R0 hI => op_later hI hx) (fun C v C' e c k z => fk_X_later e c k (by
    cases hh : ws_X_later c k with
    | false => rfl
    | true => exact absurd z (by simp [ws_X_later] at hh; omega))) (fun C v C' e c k z => fk_M_later e c k (by
    cases hh : ws_M_later c k with
    | false => rfl
    | true => exact absurd z (by simp [ws_M_later] at hh; omega))) h
theorem st_left {M : Mem} {x : Int} (hx : n32 x = x) (h : OKm M) : ∃ v C' R', X_left x M = some (v, C') ∧ M_left x C' = some (v, R') ∧ OKm R' :=
  st_mm (fun C R0 hI => op_left hI hx) (fun C v C' e c k z => fk_X_left e c k (by
    cases hh : ws_X_left c k with
    | false => rfl
    | true => exact absurd z (by simp [ws_X_left] at hh; omega))) (fun C v C' e c k z => fk_M_left e c k (by
    cases hh : ws_M_left c k with
    | false => rfl
    | true => exact absurd z (by simp [ws_M_left] at hh; omega))) h
theorem st_world {M : Mem} {x y : Int} (hx : n32 x = x) (hy : n32 y = y) (h : OKm M) : ∃ v C' R', X_world x y M = some (v, C') ∧ M_world x y C' = some (v, R') ∧ OKm R' :=
  st_mm (fun C R0 hI => op_world hI hx hy) (fun C v C' e c k z => fk_X_world e c k (by
    cases hh : ws_X_world c k with
    | false => rfl
    | true => exact absurd z (by simp [ws_X_world] at hh; omega))) (fun C v C' e c k z => fk_M_world e c k (by
    cases hh : ws_M_world c k with
    | false => rfl
    | true => exact absurd z (by simp [ws_M_world] at hh; omega))) h
theorem st_sure {M : Mem} {x y : Int} (hx : n32 x = x) (hy : n32 y = y) (h : OKm M) : ∃ v C' R', X_sure x y M = some (v, C') ∧ M_sure x y C' = some (v, R') ∧ OKm R' :=
  st_mm (fun C R0 hI => op_sure hI hx hy) (fun C v C' e c k z => fk_X_sure e c k (by
    cases hh : ws_X_sure c k with
    | false => rfl
    | true => exact absurd z (by simp [ws_X_sure] at hh; omega))) (fun C v C' e c k z => fk_M_sure e c k (by
    cases hh : ws_M_sure c k with
    | false => rfl
    | true => exact absurd z (by simp [ws_M_sure] at hh; omega))) h
theorem st_proof {M : Mem} {x y : Int} (hx : n32 x = x) (hy : n32 y = y) (h : OKm M) : ∃ v C' R', X_proof x y M = some (v, C') ∧ M_proof x y C' = some (v, R') ∧ OKm R' :=
  st_mm (fun C R0 hI => op_proof hI hx hy) (fun C v C' e c k z => fk_X_proof e c k (by
    cases hh : ws_X_proof c k with
    | false => rfl
    | true => exact absurd z (by simp [ws_X_proof] at hh; omega))) (fun C v C' e c k z => fk_M_proof e c k (by
    cases hh : ws_M_proof c k with
    | false => rfl
    | true => exact absurd z (by simp [ws_M_proof] at hh; omega))) h
theorem st_judge {M : Mem} {x y : Int} (hx : n32 x = x) (hy : n32 y = y) (h : OKm M) : ∃ v C' R', X_judge x y M = some (v, C') ∧ M_judge x y C' = some (v, R') ∧ OKm R' :=
  st_mm (fun C R0 hI => op_judge hI hx hy) (fun C v C' e c k z => fk_X_judge e c k (by
    cases hh : ws_X_judge c k with
    | false => rfl
    | true => exact absurd z (by simp [ws_X_judge] at hh; omega))) (fun C v C' e c k z => fk_M_judge e c k (by
    cases hh : ws_M_judge c k with
    | false => rfl
    | true => exact absurd z (by simp [ws_M_judge] at hh; omega))) h
theorem st_next {M : Mem} {x y : Int} (hx : n32 x = x) (hy : n32 y = y) (h : OKm M) : ∃ v C' R', X_next x y M = some (v, C') ∧ M_next x y C' = some (v, R') ∧ OKm R' :=
  st_mm (fun C R0 hI => op_next hI hx hy) (fun C v C' e c k z => fk_X_next e c k (by
    cases hh : ws_X_next c k with
    | false => rfl
    | true => exact absurd z (by simp [ws_X_next] at hh; omega))) (fun C v C' e c k z => fk_M_next e c k (by
    cases hh : ws_M_next c k with
    | false => rfl
    | true => exact absurd z (by simp [ws_M_next] at hh; omega))) h
theorem st_askings {M : Mem} {x y : Int} (hx : n32 x = x) (hy : n32 y = y) (h : OKm M) : ∃ v C' R', X_askings x y M = some (v, C') ∧ M_askings x y C' = some (v, R') ∧ OKm R' :=
  st_mm (fun C R0 hI => op_askings hI hx hy) (fun C v C' e c k z => fk_X_askings e c k (by
    cases hh : ws_X_askings c k with
    | false => rfl
    | true => exact absurd z (by simp [ws_X_askings] at hh; omega))) (fun C v C' e c k z => fk_M_askings e c k (by
    cases hh : ws_M_askings c k with
    | false => rfl
    | true => exact absurd z (by simp [ws_M_askings] at hh; omega))) h
theorem st_rest {M : Mem} {x y : Int} (hx : n32 x = x) (hy : n32 y = y) (h : OKm M) : ∃ v C', X_rest x y M = some (v, C') ∧ M_rest x y C' = some v ∧ OKm C' :=
  st_mp (fun C R0 hI => op_rest hI hx hy) (fun C v C' e c k z => fk_X_rest e c k (by
    cases hh : ws_X_rest c k with
    | false => rfl
    | true => exact absurd z (by simp [ws_X_rest] at hh; omega))) h
theorem st_truth {M : Mem} {x y z u w : Int} (hx : n32 x = x) (hy : n32 y = y) (hz : n32 z = z) (hu : n32 u = u) (hw : n32 w = w) (h : OKm M) : ∃ v C' R', X_truth x y z u w M = some (v, C') ∧ M_truth x y z u w C' = some (v, R') ∧ OKm R' :=
  st_mm (fun C R0 hI => op_truth hI hx hy hz hu hw) (fun C v C' e c k z => fk_X_truth e c k (by
    cases hh : ws_X_truth c k with
    | false => rfl
    | true => exact absurd z (by simp [ws_X_truth] at hh; omega))) (fun C v C' e c k z => fk_M_truth e c k (by
    cases hh : ws_M_truth c k with
    | false => rfl
    | true => exact absurd z (by simp [ws_M_truth] at hh; omega))) h
theorem st_leagues {M : Mem} {x y : Int} (hx : n32 x = x) (hy : n32 y = y) (h : OKm M) : ∃ v C' R', X_leagues x y M = some (v, C') ∧ M_leagues x y C' = some (v, R') ∧ OKm R' :=
  st_mm (fun C R0 hI => op_leagues hI hx hy) (fun C v C' e c k z => fk_X_leagues e c k (by
    cases hh : ws_X_leagues c k with
    | false => rfl
    | true => exact absurd z (by simp [ws_X_leagues] at hh; omega))) (fun C v C' e c k z => fk_M_leagues e c k (by
    cases hh : ws_M_leagues c k with
    | false => rfl
    | true => exact absurd z (by simp [ws_M_leagues] at hh; omega))) h
theorem st_plain {M : Mem} {x : Int} (hx : n32 x = x) (h : OKm M) : ∃ v C' R', X_plain x M = some (v, C') ∧ M_plain x C' = some (v, R') ∧ OKm R' :=
  st_mm (fun C R0 hI => op_plain hI hx) (fun C v C' e c k z => fk_X_plain e c k (by
    cases hh : ws_X_plain c k with
    | false => rfl
    | true => exact absurd z (by simp [ws_X_plain] at hh; omega))) (fun C v C' e c k z => fk_M_plain e c k (by
    cases hh : ws_M_plain c k with
    | false => rfl
    | true => exact absurd z (by simp [ws_M_plain] at hh; omega))) h
theorem st_vote {M : Mem} {x y z : Int} (hx : n32 x = x) (hy : n32 y = y) (hz : n32 z = z) (h : OKm M) : ∃ v C', X_vote x y z M = some (v, C') ∧ M_vote x y z C' = some v ∧ OKm C' :=
  st_mp (fun C R0 hI => op_vote hI hx hy hz) (fun C v C' e c k z => fk_X_vote e c k (by
    cases hh : ws_X_vote c k with
    | false => rfl
    | true => exact absurd z (by simp [ws_X_vote] at hh; omega))) h
theorem st_image {M : Mem} {x : Int} (hx : n32 x = x) (h : OKm M) : ∃ v C' R', X_image x M = some (v, C') ∧ M_image x C' = some (v, R') ∧ OKm R' :=
  st_mm (fun C R0 hI => op_image hI hx) (fun C v C' e c k z => fk_X_image e c k (by
    cases hh : ws_X_image c k with
    | false => rfl
    | true => exact absurd z (by simp [ws_X_image] at hh; omega))) (fun C v C' e c k z => fk_M_image e c k (by
    cases hh : ws_M_image c k with
    | false => rfl
    | true => exact absurd z (by simp [ws_M_image] at hh; omega))) h
theorem st_back {M : Mem} {x : Int} (hx : n32 x = x) (h : OKm M) : ∃ v C' R', X_back x M = some (v, C') ∧ M_back x C' = some (v, R') ∧ OKm R' :=
  st_mm (fun C R0 hI => op_back hI hx) (fun C v C' e c k z => fk_X_back e c k (by
    cases hh : ws_X_back c k with
    | false => rfl
    | true => exact absurd z (by simp [ws_X_back] at hh; omega))) (fun C v C' e c k z => fk_M_back e c k (by
    cases hh : ws_M_back c k with
    | false => rfl
    | true => exact absurd z (by simp [ws_M_back] at hh; omega))) h
