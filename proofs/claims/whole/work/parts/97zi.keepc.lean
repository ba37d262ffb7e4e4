/-! ===== reading a text: of the class's cells, the other town and the sayings stay ===== -/
def PC (t c : Nat) : Prop := c < 3 ∨ (18 - t ≤ c ∧ c < 30 - t) ∨ 41 ≤ c
def JC (t : Nat) (M0 M : Mem) : Prop := M 27 16 = (t : Int) ∧ (M 27 15 = 0 ∨ M 27 15 = 1) ∧ ∀ c k, PC t c → M c k = M0 c k
theorem JC_up {t c k : Nat} {v : Int} {M0 M : Mem} (hc : ¬ PC t c) (hk : ¬ (c = 27 ∧ (k = 15 ∨ k = 16))) (h : JC t M0 M) : JC t M0 (up M c k v) := by
  obtain ⟨h1, h2, h3⟩ := h
  refine ⟨by rw [up_at, if_neg (by omega)]; exact h1, by rw [up_at, if_neg (by omega)]; exact h2, fun a j ha => ?_⟩
  rw [up_at, if_neg (by rintro ⟨rfl, -⟩; exact hc ha)]
  exact h3 a j ha
theorem JC_15 {t : Nat} {v : Int} {M0 M : Mem} (ht : isT t) (hv : v = 0 ∨ v = 1) (h : JC t M0 M) : JC t M0 (up M 27 15 v) := by
  have ht2 : t = 3 ∨ t = 15 := ht
  obtain ⟨h1, h2, h3⟩ := h
  refine ⟨by rw [up_at, if_neg (by omega)]; exact h1, by rw [up_eq]; exact hv, fun a j ha => ?_⟩
  unfold PC at ha
  rw [up_at, if_neg (by omega)]
  exact h3 a j ha
theorem keepC {t : Nat} {M0 : Mem} (ht : isT t) : ∀ x : Int × Mem, (fun r : Int × Mem => JC t M0 r.2) x → A (sK (fun r : Int × Mem => JC t M0 r.2) (JC t M0)) (N_readInto_b40 x) := by
  have ht2 : t = 3 ∨ t = 15 := ht
  refine fx_N_readInto_b40 (J := JC t M0) (T0 := t) (fun M h => h.1) ?_ ?_ ?_ ?_ ?_ ?_ ?_ ?_ ?_ ?_ ?_ ?_ ?_ ?_ (fun M v hv h => JC_15 ht hv h) ?_ ?_ ?_ ?_ ?_ ?_ ?_ ?_ ?_ ?_ ?_ ?_ ?_ ?_ ?_ ?_ ?_ ?_ ?_ ?_ ?_
  all_goals intros
  all_goals exact JC_up (by unfold PC; omega) (by omega) (by assumption)
theorem keepC_it {t : Nat} {M0 C C' : Mem} {l : Int} (ht : isT t) (h : JC t M0 C) {n : Nat} (e : it N_readInto_b40 n (l, C) = some C') : JC t M0 C' :=
  A_it (I := fun r : Int × Mem => JC t M0 r.2) (keepC ht) (a := (l, C)) h C' e
theorem keepC_1 {t : Nat} {C C' : Mem} {l l' : Int} (ht : isT t) (h27 : C 27 16 = (t : Int)) (h15 : C 27 15 = 0 ∨ C 27 15 = 1) (e : N_readInto_b40 (l, C) = some (.inl (l', C'))) : C' 27 15 = 0 ∨ C' 27 15 = 1 :=
  (keepC (M0 := C) ht (l, C) ⟨h27, h15, fun _ _ _ => rfl⟩ _ e).2.1
