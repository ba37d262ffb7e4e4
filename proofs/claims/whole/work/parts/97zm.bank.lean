/-! ===== of the reference's cells, a text writes those of its own bank alone ===== -/
def PB (b c k : Nat) : Prop := c ≤ 80 ∨ (c = 81 ∧ ¬ (4 ≤ k ∧ k ≤ 10) ∧ ¬ (40 ≤ k ∧ k ≤ 45)) ∨ (84 ≤ c ∧ c ≤ 91 ∧ k ≠ b) ∨ (c = 96 ∧ ¬ (8 * b ≤ k ∧ k < 8 * b + 8)) ∨ (98 ≤ c ∧ c ≤ 103 ∧ ¬ (12 * b ≤ k ∧ k < 12 * b + 12)) ∨ (104 ≤ c ∧ c ≤ 105 ∧ ¬ (17 * b ≤ k ∧ k < 17 * b + 17)) ∨ (106 ≤ c ∧ c ≤ 107 ∧ ¬ (900 * b ≤ k ∧ k < 900 * b + 900)) ∨ 111 ≤ c
def BF (b : Nat) (M0 M : Mem) : Prop := M 81 39 = (b : Int) ∧ ∀ c k, PB b c k → M c k = M0 c k
def CT (b : Nat) (M : Mem) : Prop := (0 ≤ M 85 b ∧ M 85 b ≤ 8) ∧ (0 ≤ M 86 b ∧ M 86 b ≤ 12) ∧ (0 ≤ M 87 b ∧ M 87 b ≤ 4) ∧ (0 ≤ M 88 b ∧ M 88 b ≤ 12) ∧ (0 ≤ M 89 b ∧ M 89 b ≤ 12)
def SU (b : Nat) (M : Mem) (e : Int) : Prop := (0 ≤ M 90 b ∧ M 90 b ≤ 80) ∧ ((900 * b : Nat) : Int) ≤ M 81 40 ∧ M 81 40 ≤ ((900 * b : Nat) : Int) + 9 * M 90 b + e
def BA (b : Nat) (M0 M : Mem) : Prop := BF b M0 M ∧ CT b M ∧ SU b M 0
def BE (b : Nat) (M0 M : Mem) : Prop := BF b M0 M ∧ CT b M ∧ SU b M 8 ∧ (n32 (M 81 4) = 0 → SU b M 0)
def Qk (M M' : Mem) : Prop := ∀ c k, ¬ (c = 81 ∧ ((4 ≤ k ∧ k ≤ 10) ∨ (43 ≤ k ∧ k ≤ 45))) → M' c k = M c k
theorem Qk_rfl {M : Mem} : Qk M M := fun _ _ _ => rfl
theorem Qk_tr {M M1 M2 : Mem} (h1 : Qk M M1) (h2 : Qk M1 M2) : Qk M M2 := fun c k z => (h2 c k z).trans (h1 c k z)
theorem Qk_up {M : Mem} {k : Nat} {v : Int} (hk : 43 ≤ k ∧ k ≤ 45) : Qk M (up M 81 k v) := fun c j z => by rw [up_at, if_neg (by omega)]
section BANK
variable {b : Nat} {M0 M M' : Mem}
theorem BF_q (h : BF b M0 M) (q : Qk M M') : BF b M0 M' := ⟨by rw [q _ _ (by omega)]; exact h.1, fun c k hc => by rw [q _ _ (by unfold PB at hc; omega)]; exact h.2 c k hc⟩
theorem CT_q (h : CT b M) (q : Qk M M') : CT b M' := by
  unfold CT
  rw [q 85 _ (by omega), q 86 _ (by omega), q 87 _ (by omega), q 88 _ (by omega), q 89 _ (by omega)]
  exact h
theorem SU_q {e : Int} (h : SU b M e) (q : Qk M M') : SU b M' e := by
  unfold SU
  rw [q 90 _ (by omega), q 81 40 (by omega)]
  exact h
theorem BA_q (h : BA b M0 M) (q : Qk M M') : BA b M0 M' := ⟨BF_q h.1 q, CT_q h.2.1 q, SU_q h.2.2 q⟩
theorem SU_le {e e' : Int} (h : SU b M e) (he : e ≤ e') : SU b M e' := ⟨h.1, h.2.1, by have := h.2.2; omega⟩
theorem BA_BE (h : BA b M0 M) : BE b M0 M := ⟨h.1, h.2.1, SU_le h.2.2 (by omega), fun _ => h.2.2⟩
theorem BF_up {c k : Nat} {v : Int} (h : BF b M0 M) (hc : ¬ PB b c k) : BF b M0 (up M c k v) := by
  refine ⟨?_, fun a j ha => ?_⟩
  · rw [up_at, if_neg (by rintro ⟨rfl, rfl⟩; exact hc (by unfold PB; omega))]
    exact h.1
  · rw [up_at, if_neg (by rintro ⟨rfl, rfl⟩; exact hc ha)]
    exact h.2 a j ha
theorem A_bE {α β : Type} {K : β → Prop} {e : Option α} {f : α → Option β} (h : ∀ a, e = some a → A K (f a)) : A K (e.bind f) := by
  intro x hx
  obtain ⟨a, ha, hb⟩ := Option.bind_eq_some_iff.mp hx
  exact h a ha x hb
theorem A_mono {α : Type} {K K' : α → Prop} {e : Option α} (h : A K e) (hk : ∀ a, K a → K' a) : A K' e := fun a ha => hk a (h a ha)
/-! small functions -/
theorem q_goOn (e : M_goOn M = some M') : Qk M M' := fun c k z => fk_M_goOn e c k (by
  cases hh : ws_M_goOn c k with
  | false => rfl
  | true => exact absurd (by simp [ws_M_goOn] at hh; omega) z)
theorem q_misp (e : M_misplaced M = some M') : Qk M M' := fun c k z => fk_M_misplaced e c k (by
  cases hh : ws_M_misplaced c k with
  | false => rfl
  | true => exact absurd (by simp [ws_M_misplaced] at hh; omega) z)
theorem q_fails {x y : Int} (e : M_fails x y M = some M') : Qk M M' := fun c k z => fk_M_fails e c k (by
  cases hh : ws_M_fails c k with
  | false => rfl
  | true => exact absurd (by simp [ws_M_fails] at hh; omega) z)
theorem q_must {x : Int} (e : M_must x M = some M') : Qk M M' := fun c k z => fk_M_must e c k (by
  cases hh : ws_M_must c k with
  | false => rfl
  | true => exact absurd (by simp [ws_M_must] at hh; omega) z)
theorem q_told {x v : Int} (e : M_told x M = some (v, M')) : Qk M M' := fun c k z => fk_M_told e c k (by
  cases hh : ws_M_told c k with
  | false => rfl
  | true => exact absurd (by simp [ws_M_told] at hh; omega) z)
theorem q_after {x y v : Int} (e : M_after x y M = some (v, M')) : Qk M M' := fun c k z => fk_M_after e c k (by
  cases hh : ws_M_after c k with
  | false => rfl
  | true => exact absurd (by simp [ws_M_after] at hh; omega) z)
theorem q_fresh {x v : Int} (e : M_fresh x M = some (v, M')) : Qk M M' := fun c k z => fk_M_fresh e c k (by
  cases hh : ws_M_fresh c k with
  | false => rfl
  | true => exact absurd (by simp [ws_M_fresh] at hh; omega) z)
theorem fails_bad {x y : Int} (hx : n32 x ≠ 0) (e : M_fails x y M = some M') : n32 (M' 81 4) ≠ 0 := by
  unfold M_fails at e
  simp only [lt1_eq] at e
  by_cases q : 0 < n32 (M 81 4)
  · rw [if_pos q] at e
    cases e
    omega
  · rw [if_neg q] at e
    cases e
    rw [up_k (by decide), up_eq]
    exact hx
theorem misp_bad (e : M_misplaced M = some M') : n32 (M' 81 4) ≠ 0 := by
  unfold M_misplaced at e
  by_cases q : n32 (M 81 8) = 1
  · rw [if_pos q, bind_some'] at e
    cases h : M_fails 1 (M 81 6) M with
    | none => rw [h] at e; cases e
    | some x => rw [h] at e; cases e; exact fails_bad (by decide) h
  · rw [if_neg q, bind_some'] at e
    cases h : M_fails 2 (M 81 6) M with
    | none => rw [h] at e; cases e
    | some x => rw [h] at e; cases e; exact fails_bad (by decide) h
theorem good_eq : M_isGood M = some (if n32 (M 81 4) = 0 then 1 else 0) := by
  unfold M_isGood
  split <;> rfl
theorem must_bad {x : Int} (e : M_must x M = some M') (hg : n32 (M' 81 4) = 0) : n32 (M 81 4) = 0 := by
  refine Decidable.byContradiction (fun q => ?_)
  unfold M_must at e
  rw [good_eq, if_neg q, bind_some', if_pos (by decide)] at e
  cases e
  exact q hg
/-! the pile and the steps of an expression -/
def q47 (M : Mem) (i : Nat) : Bool := decide (n32 (M 108 i) = 4 ∨ n32 (M 108 i) = 7)
def Co (b : Nat) (M0 M : Mem) (h : Nat) : Prop := BF b M0 M ∧ CT b M ∧ (0 ≤ M 90 b ∧ M 90 b ≤ 80) ∧ ((900 * b : Nat) : Int) ≤ M 81 40 ∧ M 81 42 = (h : Int) ∧ h ≤ 120 ∧ M 81 41 = ((cnt (q47 M) h : Nat) : Int) ∧ cnt (q47 M) h ≤ 7
def I0 (b : Nat) (M0 M : Mem) : Prop := ∃ h, Co b M0 M h ∧ M 81 40 + h ≤ ((900 * b : Nat) : Int) + 9 * M 90 b
def I1 (b : Nat) (M0 M : Mem) : Prop := ∃ h, Co b M0 M h ∧ 1 ≤ h ∧ M 81 40 + h ≤ ((900 * b : Nat) : Int) + 9 * M 90 b + 1 + (cnt (q47 M) h : Nat)
def IE (b : Nat) (M0 : Mem) (x : Int × Mem) : Prop := (n32 x.1 = 0 ∧ I0 b M0 x.2) ∨ (¬ n32 x.1 = 0 ∧ I1 b M0 x.2)
theorem q47_q (q : Qk M M') : q47 M' = q47 M := by
  funext i
  unfold q47
  rw [q 108 _ (by omega)]
theorem Co_q {h : Nat} (hc : Co b M0 M h) (q : Qk M M') : Co b M0 M' h := by
  obtain ⟨h1, h2, h3, h4, h5, h6, h7, h8⟩ := hc
  refine ⟨BF_q h1 q, CT_q h2 q, ?_, ?_, ?_, h6, ?_, ?_⟩
  · rw [q 90 _ (by omega)]; exact h3
  · rw [q 81 40 (by omega)]; exact h4
  · rw [q 81 42 (by omega)]; exact h5
  · rw [q47_q q, q 81 41 (by omega)]; exact h7
  · rw [q47_q q]; exact h8
theorem I1_q (hc : I1 b M0 M) (q : Qk M M') : I1 b M0 M' := by
  obtain ⟨h, h1, h2, h3⟩ := hc
  exact ⟨h, Co_q h1 q, h2, by rw [q47_q q, q 81 40 (by omega), q 90 _ (by omega)]; exact h3⟩
theorem I0_q (hc : I0 b M0 M) (q : Qk M M') : I0 b M0 M' := by
  obtain ⟨h, h1, h3⟩ := hc
  exact ⟨h, Co_q h1 q, by rw [q 81 40 (by omega), q 90 _ (by omega)]; exact h3⟩
theorem CT_up {c k : Nat} {v : Int} (h : CT b M) (hc : ¬ (85 ≤ c ∧ c ≤ 89)) : CT b (up M c k v) := by
  unfold CT
  rw [up_c (by omega), up_c (by omega), up_c (by omega), up_c (by omega), up_c (by omega)]
  exact h
/-- one more on the pile -/
theorem push_c {h : Nat} {w s n : Int} (hc : Co b M0 M h) (e : M_pushE w s n M = some M') : h < 120 ∧ (∀ c k, c ≠ 108 → c ≠ 109 → c ≠ 110 → ¬ (c = 81 ∧ k = 42) → M' c k = M c k) ∧ M' 81 42 = ((h + 1 : Nat) : Int) ∧ cnt (q47 M') (h + 1) = cnt (q47 M) h + (if n32 w = 4 ∨ n32 w = 7 then 1 else 0) := by
  obtain ⟨-, -, -, -, h5, -, -, -⟩ := hc
  unfold M_pushE at e
  simp only [lt1_eq] at e
  rw [up_c (by decide), up_c (by decide), up_c (by decide), up_c (by decide), up_c (by decide), up_c (by decide), h5, tn_nat] at e
  by_cases q : 0 ≤ (h : Int) ∧ (h : Int) < 120
  · rw [chk_pos q, chk_pos q, chk_pos q] at e
    cases e
    refine ⟨by omega, fun c k z1 z2 z3 z4 => by rw [up_at, if_neg z4, up_c z3, up_c z2, up_c z1], by rw [up_eq]; omega, ?_⟩
    have e1 : ∀ i, i < h → q47 (up (up (up (up M 108 h w) 109 h s) 110 h n) 81 42 ((h : Int) + 1)) i = q47 M i := by
      intro i hi
      unfold q47
      rw [up_c (by decide), up_c (by decide), up_c (by decide), up_k (by omega)]
    have e2 : q47 (up (up (up (up M 108 h w) 109 h s) 110 h n) 81 42 ((h : Int) + 1)) h = decide (n32 w = 4 ∨ n32 w = 7) := by
      unfold q47
      rw [up_c (by decide), up_c (by decide), up_c (by decide), up_eq]
    show cnt _ h + _ = _
    rw [cnt_congr e1, e2]
    by_cases qq : n32 w = 4 ∨ n32 w = 7
    · rw [if_pos qq, decide_eq_true qq]; rfl
    · rw [if_neg qq, decide_eq_false qq]; rfl
  · unfold chk at e
    rw [if_neg q] at e
    cases e
end BANK
