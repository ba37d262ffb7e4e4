/-! ===== expressions: from one to e, from part to f ===== -/
def Tp3 (x : Nat) : Prop := x = 1 ∨ x = 2 ∨ x = 7 ∨ x = 8
def Tp2 (x : Nat) : Prop := x = 1 ∨ x = 7 ∨ x = 8
def Tp1 (x : Nat) : Prop := x = 7 ∨ x = 8
def Tp6 (x : Nat) : Prop := x = 2 ∨ x = 5 ∨ x = 7 ∨ x = 8
def Tp5 (x : Nat) : Prop := x = 2 ∨ x = 7 ∨ x = 8
def TpA (_ : Nat) : Prop := True
def ExN (_ : Nat) : Prop := False
section ROWS
variable {t b n s0 bare : Nat} {C0 R0 : Mem}
theorem bind_some_id {α : Type} (x : Option α) : (x.bind fun y => some y) = x := by
  cases x <;> rfl
theorem both_sim (hEnv : EnvX 0 t b n bare C0 R0) {d mx sl : Nat} {sub : Int → Mem → Option Mem} (hd : d ≤ 7) (hsl : 1 ≤ sl) (hsub : SimG 0 t b n s0 bare C0 R0 d (4 + 4 * d) mx sl TpA ExN 0 (sub d)) (hbrk : ∀ C, C 40 4 = 24 → sub d C = some C) : SimG 0 t b n s0 bare C0 R0 d (3 + 4 * d) (mx + 1) 1 Tp3 (fun k => k = 14) 0 (N_readBoth sub d) := by
  refine loop_A hEnv hsub hbrk (r := 3) (by decide) (by omega) trivial (fun kd _ _ => ?_) hsl (Op := fun k => k = 14) (fun kd z => ?_) (body := N_readBoth_b7 sub d) (fun j C kd z1 z2 z3 => ?_) (fun j C kd z1 z2 z3 z4 => ?_) (by omega) (fun x z => ⟨trivial, by unfold Tp3 at z; omega⟩) (by decide) (Or.inl (Or.inl rfl)) (fun kd _ z => z) (fun C => ?_)
  · unfold rkM rkE
    rw [if_pos rfl]
    split <;> (try omega)
    split <;> (try omega)
    split <;> omega
  · subst z
    exact ⟨⟨rfl, Or.inl ⟨rfl, by decide⟩⟩, by unfold DM; omega, by decide⟩
  · subst z2
    unfold N_readBoth_b7
    dsimp only
    rw [if_pos ⟨by rw [n32_nat (by omega)]; omega, by rw [z1]; rfl⟩]
    rfl
  · unfold N_readBoth_b7
    dsimp only
    rw [if_neg (fun y => z4 (by have := y.2; rw [z1, n32_nat (by omega)] at this; omega))]
  · unfold N_readBoth
    cases sub d C with
    | none => rfl
    | some M => rw [bind_some', bind_some', bind_some_id]
theorem alt_sim (hEnv : EnvX 0 t b n bare C0 R0) {d mx : Nat} {sub : Int → Mem → Option Mem} (hd : d ≤ 7) (hsub : SimG 0 t b n s0 bare C0 R0 d (3 + 4 * d) mx 1 Tp3 (fun k => k = 14) 0 (N_readBoth sub d)) (hbrk : ∀ C, C 40 4 = 24 → N_readBoth sub d C = some C) : SimG 0 t b n s0 bare C0 R0 d (2 + 4 * d) (mx + 1) 1 Tp2 (fun k => k = 14 ∨ k = 13) 0 (N_readAlt sub d) := by
  refine loop_A hEnv hsub hbrk (r := 2) (by decide) (by omega) (by unfold Tp3; omega) (fun kd z _ => ?_) (Nat.le_refl _) (Op := fun k => k = 13) (fun kd z => ?_) (body := N_readAlt_b7 sub d) (fun j C kd z1 z2 z3 => ?_) (fun j C kd z1 z2 z3 z4 => ?_) (by omega) (fun x z => ⟨by unfold Tp2 at z; unfold Tp3; omega, by unfold Tp2 at z; omega⟩) (by decide) (Or.inl (Or.inr (Or.inl ⟨rfl, rfl⟩))) (fun kd z1 z => by omega) (fun C => ?_)
  · unfold rkM rkE
    rw [if_pos rfl]
    split <;> (try omega)
    all_goals (first | omega | (split <;> omega))
  · subst z
    exact ⟨⟨rfl, Or.inl ⟨rfl, by decide⟩⟩, by unfold DM; omega, by decide⟩
  · subst z2
    unfold N_readAlt_b7
    dsimp only
    rw [if_pos ⟨by rw [n32_nat (by omega)]; omega, by rw [z1]; rfl⟩]
    rfl
  · unfold N_readAlt_b7
    dsimp only
    rw [if_neg (fun y => z4 (by have := y.2; rw [z1, n32_nat (by omega)] at this; omega))]
  · unfold N_readAlt
    cases N_readBoth sub d C with
    | none => rfl
    | some M => rw [bind_some', bind_some', bind_some_id]
theorem e_sim (hEnv : EnvX 0 t b n bare C0 R0) {d mx : Nat} {sub : Int → Mem → Option Mem} (hd : d ≤ 7) (hsub : SimG 0 t b n s0 bare C0 R0 d (2 + 4 * d) mx 1 Tp2 (fun k => k = 14 ∨ k = 13) 0 (N_readAlt sub d)) (hbrk : ∀ C, C 40 4 = 24 → N_readAlt sub d C = some C) : SimG 0 t b n s0 bare C0 R0 d (1 + 4 * d) (mx + 1) 1 Tp1 (fun k => rkM 0 k ≠ 0) 1 (N_readE sub d) := by
  refine loop_B hEnv hsub hbrk (r := 1) (by decide) (by omega) (by unfold Tp2; omega) (fun kd z _ => ?_) (Nat.le_refl _) rfl (fun kd z => ?_) (tail := fun M_1 => if n32 (M_1 40 4) = 12 then (K_pass M_1).bind fun M_2 => (N_readAlt sub d M_2).bind fun M_3 => (S_add 12 0 M_3).bind fun M_4 => some M_4 else some M_1) (fun C kd z1 z2 => ?_) (fun C kd z1 z2 z3 => ?_) (by omega) (fun x z => ⟨by unfold Tp1 at z; unfold Tp2; omega, by unfold Tp1 at z; omega⟩) (fun R m x z1 z2 => ?_) (fun kd z1 z => ?_) (fun C => ?_)
  · unfold rkM rkE
    rw [if_pos rfl]
    split <;> (try omega)
    split <;> (try omega)
    split <;> omega
  · have : kd = 12 := by unfold DM at z; omega
    subst this
    exact ⟨rfl, Or.inl ⟨rfl, by decide⟩⟩
  · have : kd = 12 := by unfold DM at z2; omega
    subst this
    rw [z1, if_pos (show n32 ((12 : Nat) : Int) = 12 by decide)]
    simp only [bind_some_id]
    rfl
  · rw [if_neg (fun y => z3 (by rw [z1, n32_nat (by omega)] at y; exact Or.inl ⟨rfl, by omega⟩))]
  · rw [agR1 z1, if_neg (by unfold Tp1 at z2; omega), decide_eq_false]
    unfold Tp1 at z2
    omega
  · intro y
    apply y
    have : kd ≠ 12 := fun w => z (Or.inl ⟨rfl, w⟩)
    unfold rkM rkE
    rw [if_pos rfl, if_neg (by omega), if_neg this, if_neg (by omega)]
  · unfold N_readE
    rfl
theorem sum_sim (hEnv : EnvX 1 t b n bare C0 R0) {d mx sl : Nat} {sub : Int → Mem → Option Mem} (hd : d ≤ 7) (hsl : 1 ≤ sl) (hsub : SimG 1 t b n s0 bare C0 R0 d (4 + 4 * d) mx sl TpA ExN 0 (sub d)) (hbrk : ∀ C, C 40 4 = 24 → sub d C = some C) : SimG 1 t b n s0 bare C0 R0 d (3 + 4 * d) (mx + 1) 1 Tp6 (fun k => k = 43 ∨ k = 45) 0 (N_readSum sub d) := by
  refine loop_A hEnv hsub hbrk (r := 6) (by decide) (by omega) trivial (fun kd _ _ => rkM_op) hsl (Op := fun k => k = 43 ∨ k = 45) (fun kd z => ?_) (body := N_readSum_b7 sub d) (fun j C kd z1 z2 z3 => ?_) (fun j C kd z1 z2 z3 z4 => ?_) (by omega) (fun x z => ⟨trivial, by unfold Tp6 at z; omega⟩) (by decide) (Or.inl (Or.inr (Or.inr rfl))) (fun kd _ z => z) (fun C => ?_)
  · rcases z with z | z <;> subst z <;> exact ⟨⟨rfl, Or.inr ⟨rfl, by decide⟩⟩, by unfold DM; omega, by decide⟩
  · unfold N_readSum_b7
    dsimp only
    rw [if_pos (by rw [n32_nat (by omega)]; omega), if_pos (by rw [z1, n32_nat (by omega)]; omega), lt1_eq, z1]
    rfl
  · unfold N_readSum_b7
    dsimp only
    rw [if_neg (c := n32 (C 40 4) = 43 ∨ n32 (C 40 4) = 45) (fun y => z4 (by rw [z1, n32_nat (by omega)] at y; omega))]
    split <;> rfl
  · unfold N_readSum
    cases sub d C with
    | none => rfl
    | some M => rw [bind_some', bind_some', bind_some_id]
theorem any_sim (hEnv : EnvX 1 t b n bare C0 R0) {d mx : Nat} {sub : Int → Mem → Option Mem} (hd : d ≤ 7) (hsub : SimG 1 t b n s0 bare C0 R0 d (3 + 4 * d) mx 1 Tp6 (fun k => k = 43 ∨ k = 45) 0 (N_readSum sub d)) (hbrk : ∀ C, C 40 4 = 24 → N_readSum sub d C = some C) : SimG 1 t b n s0 bare C0 R0 d (2 + 4 * d) (mx + 1) 1 Tp5 (fun k => k = 43 ∨ k = 45 ∨ k = 60 ∨ k = 61 ∨ k = 62) 1 (N_readAny sub d) := by
  refine loop_B hEnv hsub hbrk (r := 5) (by decide) (by omega) (by unfold Tp6; omega) (fun kd z _ => ?_) (Nat.le_refl _) rfl (fun kd z => ?_) (tail := fun M_1 => lt1 ((M_1 40 4)) fun l2_2 => if (n32 l2_2 = 60) ∨ ((n32 l2_2 = 62) ∨ (n32 l2_2 = 61)) then (K_pass M_1).bind fun M_3 => (N_readSum sub d M_3).bind fun M_4 => (S_add l2_2 0 M_4).bind fun M_5 => some M_5 else some M_1) (fun C kd z1 z2 => ?_) (fun C kd z1 z2 z3 => ?_) (by omega) (fun x z => ⟨by unfold Tp5 at z; unfold Tp6; omega, by unfold Tp5 at z; omega⟩) (fun R m x z1 z2 => ?_) (fun kd z1 z => ?_) (fun C => ?_)
  · unfold rkM rkL
    rw [if_neg (by decide)]
    split <;> (try omega)
    all_goals (first | omega | (split <;> omega))
  · unfold DM at z
    have z2 : kd = 60 ∨ kd = 62 ∨ kd = 61 := by omega
    rcases z2 with y | y | y <;> subst y <;> exact ⟨rfl, Or.inr ⟨rfl, by decide⟩⟩
  · unfold DM at z2
    rw [lt1_eq, if_pos (by rw [z1, n32_nat (by omega)]; omega), z1]
    simp only [bind_some_id]
  · rw [lt1_eq, if_neg (fun y => z3 (by rw [z1, n32_nat (by omega)] at y; exact Or.inr ⟨rfl, by omega⟩))]
  · rw [agR5 z1, if_neg (by unfold Tp5 at z2; omega), decide_eq_false]
    unfold Tp5 at z2
    omega
  · have : ¬ (kd = 60 ∨ kd = 62 ∨ kd = 61) := fun w => z (Or.inr ⟨rfl, w⟩)
    omega
  · unfold N_readAny
    rfl
theorem f_sim (hEnv : EnvX 1 t b n bare C0 R0) {d mx : Nat} {sub : Int → Mem → Option Mem} (hd : d ≤ 7) (hsub : SimG 1 t b n s0 bare C0 R0 d (2 + 4 * d) mx 1 Tp5 (fun k => k = 43 ∨ k = 45 ∨ k = 60 ∨ k = 61 ∨ k = 62) 1 (N_readAny sub d)) (hbrk : ∀ C, C 40 4 = 24 → N_readAny sub d C = some C) : SimG 1 t b n s0 bare C0 R0 d (1 + 4 * d) (mx + 1) 1 Tp1 (fun k => rkM 1 k ≠ 0) 1 (N_readF sub d) := by
  refine loop_A hEnv hsub hbrk (r := 2) (by decide) (by omega) (by unfold Tp5; omega) (fun kd z _ => ?_) (Nat.le_refl _) (Op := fun k => k = 13) (fun kd z => ?_) (body := N_readF_b7 sub d) (fun j C kd z1 z2 z3 => ?_) (fun j C kd z1 z2 z3 z4 => ?_) (by omega) (fun x z => ⟨by unfold Tp1 at z; unfold Tp5; omega, by unfold Tp1 at z; omega⟩) (by decide) (Or.inr ⟨rfl, fun x z => by unfold Tp1 at z; omega⟩) (fun kd z1 z => ?_) (fun C => ?_)
  · unfold rkM rkL
    rw [if_neg (by decide)]
    split <;> (try omega)
    split <;> (try omega)
    split <;> omega
  · subst z
    exact ⟨⟨rfl, Or.inr ⟨rfl, by decide⟩⟩, by unfold DM; omega, by decide⟩
  · subst z2
    unfold N_readF_b7
    dsimp only
    rw [if_pos ⟨by rw [n32_nat (by omega)]; omega, by rw [z1]; rfl⟩]
    rfl
  · unfold N_readF_b7
    dsimp only
    rw [if_neg (fun y => z4 (by have := y.2; rw [z1, n32_nat (by omega)] at this; omega))]
  · intro y
    apply y
    unfold rkM rkL
    rw [if_neg (by decide), if_neg (by omega), if_neg (by omega), if_neg (by omega)]
  · unfold N_readF
    cases N_readAny sub d C with
    | none => rfl
    | some M => rw [bind_some', bind_some', bind_some_id]
end ROWS
