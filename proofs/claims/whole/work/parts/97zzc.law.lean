/-! ===== the law: every run of calls ===== -/
theorem Z_jn_mk {α β : Type} {k : α → Option β} {f : (α → Option β) → Option β} {K : β → Prop} (P : α → Prop) (hk : ∀ x, P x → Z (k x) K) (hf : ∀ k' : α → Option β, (∀ x, P x → Z (k' x) K) → Z (f k') K) : Z (jn k f) K := hf k hk
theorem Z_ite_mk {α : Type} {p : Prop} [Decidable p] {a b : Option α} {K : α → Prop} (h1 : p → Z a K) (h2 : ¬ p → Z b K) : Z (if p then a else b) K := Z_ite_iff.mpr ⟨h1, h2⟩
theorem law_step {Ls : Nat} {xs : Nat → Int32} {l : Nat} {M : Mem} {K : ((Int × Mem) ⊕ ((Mem) ⊕ (Int × Mem))) → Prop} (hL : Ls ≤ 3072) (hl : l + 6 ≤ Ls) (h : OKm M) (hK : ∀ R, OKm R → K (.inl (((l + 6 : Nat) : Int), R))) : Z (L_law_b18 Ls xs ((l : Int), M)) K := by
  have hl' : 0 ≤ (l : Int) ∧ (l : Int) + 6 ≤ (Ls : Int) := by omega
  unfold L_law_b18
  dsimp only
  rw [if_pos (by rw [n32_nat (by omega), n32_of (by omega) (by omega)]; omega), chk_pos (by omega)]
  refine Z_jn_mk OKm (fun R hR => ?_) (fun j_15 hj => ?_)
  · rw [lt1_eq]
    exact Z_of (hK R hR)
  refine Z_ite_mk (fun _ => br_0 hl' h hj) (fun _ => ?_)
  refine Z_ite_mk (fun _ => br_1 hl' h hj) (fun _ => ?_)
  refine Z_ite_mk (fun _ => br_2 hl' h hj) (fun _ => ?_)
  refine Z_ite_mk (fun _ => br_3 hl' h hj) (fun _ => ?_)
  refine Z_ite_mk (fun _ => br_4 hl' h hj) (fun _ => ?_)
  refine Z_ite_mk (fun _ => br_5 hl' h hj) (fun _ => ?_)
  refine Z_ite_mk (fun _ => br_6 hl' h hj) (fun _ => ?_)
  refine Z_ite_mk (fun _ => br_7 hl' h hj) (fun _ => ?_)
  refine Z_ite_mk (fun _ => br_8 hl' h hj) (fun _ => ?_)
  refine Z_ite_mk (fun _ => br_9 hl' h hj) (fun _ => ?_)
  refine Z_ite_mk (fun _ => br_10 hl' h hj) (fun _ => ?_)
  refine Z_ite_mk (fun _ => br_11 hl' h hj) (fun _ => ?_)
  refine Z_ite_mk (fun _ => br_12 hl' h hj) (fun _ => ?_)
  refine Z_ite_mk (fun _ => br_13 hl' h hj) (fun _ => ?_)
  refine Z_ite_mk (fun _ => br_14 hl' h hj) (fun _ => ?_)
  refine Z_ite_mk (fun _ => br_15 hl' h hj) (fun _ => ?_)
  refine Z_ite_mk (fun _ => br_16 hl' h hj) (fun _ => ?_)
  refine Z_ite_mk (fun _ => br_17 hl' h hj) (fun _ => ?_)
  refine Z_ite_mk (fun _ => br_18 hl' h hj) (fun _ => ?_)
  refine Z_ite_mk (fun _ => br_19 hl' h hj) (fun _ => ?_)
  refine Z_ite_mk (fun _ => br_20 hl' h hj) (fun _ => ?_)
  refine Z_ite_mk (fun _ => br_21 hl' h hj) (fun _ => ?_)
  refine Z_ite_mk (fun _ => br_22 hl' h hj) (fun _ => ?_)
  refine Z_ite_mk (fun _ => br_23 hl' h hj) (fun _ => ?_)
  refine Z_ite_mk (fun _ => br_24 hl' h hj) (fun _ => ?_)
  refine Z_ite_mk (fun _ => br_25 hl' h hj) (fun _ => ?_)
  refine Z_ite_mk (fun _ => br_26 hl' h hj) (fun _ => ?_)
  refine Z_ite_mk (fun _ => br_27 hl' h hj) (fun _ => ?_)
  exact hj _ h
theorem law_all {Ls : Nat} {xs : Nat → Int32} {M : Mem} (hL : Ls ≤ 3072) (h : OKm M) : Z (it (L_law_b18 Ls xs) FUEL (0, M)) (fun r => ∃ R, r = .inl R) := by
  refine it_Z (fun i x => x.1 = ((6 * i : Nat) : Int) ∧ OKm x.2) (Ls / 6) (by unfold FUEL; omega) ⟨rfl, h⟩ ?_ ?_
  · rintro i ⟨l, M⟩ hi ⟨h1, h2⟩
    dsimp only at h1 h2
    subst h1
    exact law_step hL (by omega) h2 (fun R hR => Or.inl ⟨_, rfl, by dsimp only; omega, hR⟩)
  · rintro ⟨l, M⟩ ⟨h1, h2⟩
    dsimp only at h1 h2
    subst h1
    unfold L_law_b18
    dsimp only
    rw [if_neg (by rw [n32_nat (by omega), n32_of (by omega) (by omega)]; omega)]
    exact Z_of ⟨_, rfl, _, rfl⟩
/-- what the machine's half left to show, of plain functions alone -/
theorem pure_law {Ls : Nat} {xs : Nat → Int32} (hL : Ls ≤ 3072) : Z (L_law Ls xs (fun _ _ => 0)) (fun q => q.1 = 1) := by
  obtain ⟨C7, M, e1, e2, hI⟩ := init_inv
  obtain ⟨r, e3, R, rfl⟩ := law_all (xs := xs) hL (show OKm M from hI)
  unfold L_law
  rw [e1, bind_some', e2, bind_some', e3, bind_some']
  exact Z_of rfl
