/-! ===== a text begins ===== -/
theorem clear_8 {t : Nat} {M : Mem} : it (T_clear_b32 t) FUEL (0, M) = some (wup M (t + 3) 0 8 (fun _ => 0)) := by
  refine it_for (fun i => ((i : Int), wup M (t + 3) 0 i (fun _ => 0))) 8 (by unfold FUEL; omega) (by rw [wup_0]; rfl) ?_ ?_
  · intro i hi
    have e := wup_s (M := M) (c := t + 3) (o := 0) (i := i) (f := fun _ => 0) (v := 0) rfl
    rw [Nat.zero_add] at e
    unfold T_clear_b32
    dsimp only
    rw [n32_nat (by omega), if_pos (by omega), chk_pos (by omega), lt1_eq, lt1_eq, tn_nat, e]
    rfl
  · unfold T_clear_b32
    dsimp only
    rw [n32_nat (by omega), if_neg (by omega)]
theorem clear_96 {t : Nat} {M : Mem} : it (T_clear_b53 t) FUEL (0, M) = some (wup M (t + 7) 0 96 (fun _ => -1)) := by
  refine it_for (fun i => ((i : Int), wup M (t + 7) 0 i (fun _ => -1))) 96 (by unfold FUEL; omega) (by rw [wup_0]; rfl) ?_ ?_
  · intro i hi
    have e := wup_s (M := M) (c := t + 7) (o := 0) (i := i) (f := fun _ => -1) (v := -1) rfl
    rw [Nat.zero_add] at e
    unfold T_clear_b53
    dsimp only
    rw [n32_nat (by omega), if_pos (by omega), chk_pos (by omega), lt1_eq, lt1_eq, tn_nat, e]
    rfl
  · unfold T_clear_b53
    dsimp only
    rw [n32_nat (by omega), if_neg (by omega)]
theorem begin_C {t n : Nat} {C : Mem} (ht : isT t) : ∃ C5, N_readInto t (n : Int) C = ((K_pass C5).bind fun C1 => it N_readInto_b40 FUEL (0, C1)) ∧ (C5 40 2 = (n : Int) ∧ C5 40 3 = 0 ∧ C5 40 4 = 23 ∧ C5 40 8 = 0 ∧ C5 40 9 = -1) ∧ (C5 27 16 = (t : Int) ∧ C5 27 10 = 0 ∧ C5 27 13 = 0 ∧ C5 28 1 = 0) ∧ (∀ k, k < 6 → C5 t k = 0) ∧ (∀ k, k < 8 → C5 (t + 3) k = 0) ∧ (∀ k, k < 96 → C5 (t + 7) k = -1) ∧ ∀ c k, c ≠ 40 → c ≠ 28 → c ≠ t → c ≠ t + 3 → c ≠ t + 7 → ¬ (c = 27 ∧ (k = 10 ∨ k = 13 ∨ k = 16)) → C5 c k = C c k := by
  have ht2 : t = 3 ∨ t = 15 := ht
  unfold N_readInto K_start T_clear
  simp only [lt1_eq]
  rw [up_eq, chk_pos (isTI_of rfl ht), tn_nat, clear_8, bind_some', clear_96, bind_some', bind_some']
  have bs : ∀ x : Option Mem, (x.bind fun M => some M) = x := fun x => by cases x <;> rfl
  simp only [bs]
  refine ⟨_, rfl, ⟨?_, ?_, ?_, ?_, ?_⟩, ⟨?_, ?_, ?_, ?_⟩, fun k hk => ?_, fun k hk => ?_, fun k hk => ?_, fun c k z1 z2 z3 z4 z5 z6 => ?_⟩
  · (repeat first | rw [up_at, if_pos (by omega)] | rw [up_at, if_neg (by omega)] | rw [wup_at, if_pos (by omega)] | rw [wup_at, if_neg (by omega)])
  · (repeat first | rw [up_at, if_pos (by omega)] | rw [up_at, if_neg (by omega)] | rw [wup_at, if_pos (by omega)] | rw [wup_at, if_neg (by omega)])
  · (repeat first | rw [up_at, if_pos (by omega)] | rw [up_at, if_neg (by omega)] | rw [wup_at, if_pos (by omega)] | rw [wup_at, if_neg (by omega)])
  · (repeat first | rw [up_at, if_pos (by omega)] | rw [up_at, if_neg (by omega)] | rw [wup_at, if_pos (by omega)] | rw [wup_at, if_neg (by omega)])
  · (repeat first | rw [up_at, if_pos (by omega)] | rw [up_at, if_neg (by omega)] | rw [wup_at, if_pos (by omega)] | rw [wup_at, if_neg (by omega)])
  · (repeat first | rw [up_at, if_pos (by omega)] | rw [up_at, if_neg (by omega)] | rw [wup_at, if_pos (by omega)] | rw [wup_at, if_neg (by omega)])
  · (repeat first | rw [up_at, if_pos (by omega)] | rw [up_at, if_neg (by omega)] | rw [wup_at, if_pos (by omega)] | rw [wup_at, if_neg (by omega)])
  · (repeat first | rw [up_at, if_pos (by omega)] | rw [up_at, if_neg (by omega)] | rw [wup_at, if_pos (by omega)] | rw [wup_at, if_neg (by omega)])
  · (repeat first | rw [up_at, if_pos (by omega)] | rw [up_at, if_neg (by omega)] | rw [wup_at, if_pos (by omega)] | rw [wup_at, if_neg (by omega)])
  · obtain rfl | rfl | rfl | rfl | rfl | rfl : k = 0 ∨ k = 1 ∨ k = 2 ∨ k = 3 ∨ k = 4 ∨ k = 5 := by omega
    all_goals (repeat first | rw [up_at, if_pos (by omega)] | rw [up_at, if_neg (by omega)] | rw [wup_at, if_pos (by omega)] | rw [wup_at, if_neg (by omega)])
  · (repeat first | rw [up_at, if_pos (by omega)] | rw [up_at, if_neg (by omega)] | rw [wup_at, if_pos (by omega)] | rw [wup_at, if_neg (by omega)])
  · (repeat first | rw [up_at, if_pos (by omega)] | rw [up_at, if_neg (by omega)] | rw [wup_at, if_pos (by omega)] | rw [wup_at, if_neg (by omega)])
  · (repeat first | rw [up_at, if_pos (by omega)] | rw [up_at, if_neg (by omega)] | rw [wup_at, if_pos (by omega)] | rw [wup_at, if_neg (by omega)])
/-- what the reference does behind its reading of a text -/
def townEnd (M_34 : Mem) : Option (Int × Mem) :=
  (M_isGood M_34).bind fun r_43 =>
  if n32 r_43 = 0 then
    some ((-1), M_34)
  else
    lt1 (up M_34 81 38 (M_34 81 39)) fun M_44 =>
    lt1 (up M_44 81 57 0) fun M_45 =>
    (it (M_town_b119) FUEL (0, M_45)).bind fun M_54 =>
    (M_layWorlds M_54).bind fun M_60 =>
    (M_baseMany M_60).bind fun r_61 =>
    some (r_61, M_60)
theorem copy_83 {n : Nat} {M : Mem} (hn : n ≤ 1600) (h3 : M 81 3 = (n : Int)) (hb : ∀ i, i < n → -128 ≤ M 82 i ∧ M 82 i < 128) : it M_town_b20 FUEL (0, M) = some (wup M 83 0 n (fun i => M 82 i)) := by
  refine it_for (fun i => ((i : Int), wup M 83 0 i (fun i => M 82 i))) n (by unfold FUEL; omega) (by rw [wup_0]; rfl) ?_ ?_
  · intro i hi
    have e := wup_s (M := M) (c := 83) (o := 0) (i := i) (f := fun i => M 82 i) (v := M 82 i) rfl
    rw [Nat.zero_add] at e
    unfold M_town_b20
    dsimp only
    rw [wup_c (by decide), h3, n32_nat (by omega), n32_nat (by omega), if_pos (by omega), chk_pos (by omega), chk_pos (by omega), tn_nat, wup_c (by decide), chk_pos (hb i hi), lt1_eq, lt1_eq, e]
    rfl
  · unfold M_town_b20
    dsimp only
    rw [wup_c (by decide), h3, n32_nat (by omega), if_neg (by omega)]
theorem clearBank_eq {b : Nat} {M : Mem} (hb : b < 2) (h39 : M 81 39 = (b : Int)) : M_clearBank M = some (up (up (up (up (up (up (up (up (up M 84 b 0) 85 b 0) 86 b 0) 87 b 0) 88 b 0) 89 b 0) 90 b 0) 91 b 0) 81 40 (900 * (b : Int))) := by
  have hc : ∀ e : Option Mem, chk (0 ≤ (b : Int) ∧ (b : Int) < 2) e = e := fun e => chk_pos (by omega)
  unfold M_clearBank
  simp only [lt1_eq, up_c (show (81 : Nat) ≠ 84 by decide), up_c (show (81 : Nat) ≠ 85 by decide), up_c (show (81 : Nat) ≠ 86 by decide), up_c (show (81 : Nat) ≠ 87 by decide), up_c (show (81 : Nat) ≠ 88 by decide), up_c (show (81 : Nat) ≠ 89 by decide), up_c (show (81 : Nat) ≠ 90 by decide), up_c (show (81 : Nat) ≠ 91 by decide), h39, tn_nat, hc]
theorem begin_R {b n : Nat} {R : Mem} (hb : b < 2) (hn : n ≤ 1600) (h2 : R 81 2 = (n : Int)) (h38 : R 81 38 = ((1 - b : Nat) : Int)) (hby : ∀ i, i < n → -128 ≤ R 82 i ∧ R 82 i < 128) : ∃ R5, M_town R = ((M_goOn R5).bind fun R1 => (it M_town_b74 FUEL R1).bind townEnd) ∧ (R5 81 4 = 0 ∧ R5 81 5 = -1 ∧ R5 81 3 = (n : Int) ∧ R5 81 2 = 0 ∧ R5 81 7 = 0 ∧ R5 81 39 = (b : Int) ∧ R5 81 40 = ((900 * b : Nat) : Int)) ∧ (∀ i, i < n → R5 83 i = R 82 i) ∧ (R5 84 b = 0 ∧ R5 85 b = 0 ∧ R5 86 b = 0 ∧ R5 87 b = 0 ∧ R5 88 b = 0 ∧ R5 89 b = 0 ∧ R5 90 b = 0 ∧ R5 91 b = 0) ∧ ∀ c k, c ≠ 83 → ¬ (c = 81 ∧ (k = 2 ∨ k = 3 ∨ k = 4 ∨ k = 5 ∨ k = 7 ∨ k = 39 ∨ k = 40)) → ¬ (84 ≤ c ∧ c ≤ 91 ∧ k = b) → R5 c k = R c k := by
  unfold M_town
  simp only [lt1_eq]
  rw [show up (up R 81 4 0) 81 5 (-1) 81 2 = R 81 2 by rw [up_k (by decide), up_k (by decide)], h2]
  generalize hM3 : up (up (up R 81 4 0) 81 5 (-1)) 81 3 (n : Int) = M3
  have m82 : ∀ i, M3 82 i = R 82 i := fun i => by rw [← hM3, up_c (by decide), up_c (by decide), up_c (by decide)]
  have m3 : M3 81 3 = (n : Int) := by rw [← hM3, up_eq]
  have m4 : M3 81 4 = 0 := by rw [← hM3, up_k (by decide), up_k (by decide), up_eq]
  have m5 : M3 81 5 = -1 := by rw [← hM3, up_k (by decide), up_eq]
  have mf : ∀ c k, ¬ (c = 81 ∧ (k = 3 ∨ k = 4 ∨ k = 5)) → M3 c k = R c k := fun c k z => by rw [← hM3, up_at, if_neg (by omega), up_at, if_neg (by omega), up_at, if_neg (by omega)]
  rw [copy_83 hn m3 (fun i hi => by rw [m82]; exact hby i hi), bind_some']
  generalize hM4 : wup M3 83 0 n (fun i => M3 82 i) = M4
  have w83 : ∀ i, i < n → M4 83 i = R 82 i := fun i hi => by rw [← hM4, wup_at, if_pos ⟨rfl, by omega, by omega⟩, Nat.sub_zero, m82]
  have wf : ∀ c k, c ≠ 83 → M4 c k = M3 c k := fun c k z => by rw [← hM4, wup_c z]
  have h38' : up (up M4 81 2 0) 81 7 0 81 38 = ((1 - b : Nat) : Int) := by rw [up_k (by decide), up_k (by decide), wf _ _ (by decide), mf _ _ (by omega), h38]
  rw [h38', show (1 : Int) - ((1 - b : Nat) : Int) = (b : Int) by omega, clearBank_eq hb up_eq, bind_some']
  refine ⟨_, rfl, ⟨?_, ?_, ?_, ?_, ?_, ?_, ?_⟩, fun i hi => ?_, ⟨?_, ?_, ?_, ?_, ?_, ?_, ?_, ?_⟩, fun c k z1 z2 z3 => ?_⟩
  · (repeat first | rw [up_at, if_pos (by omega)] | rw [up_at, if_neg (by omega)] | rw [wup_at, if_pos (by omega)] | rw [wup_at, if_neg (by omega)])
    rw [wf _ _ (by decide), m4]
  · (repeat first | rw [up_at, if_pos (by omega)] | rw [up_at, if_neg (by omega)] | rw [wup_at, if_pos (by omega)] | rw [wup_at, if_neg (by omega)])
    rw [wf _ _ (by decide), m5]
  · (repeat first | rw [up_at, if_pos (by omega)] | rw [up_at, if_neg (by omega)] | rw [wup_at, if_pos (by omega)] | rw [wup_at, if_neg (by omega)])
    rw [wf _ _ (by decide), m3]
  · (repeat first | rw [up_at, if_pos (by omega)] | rw [up_at, if_neg (by omega)] | rw [wup_at, if_pos (by omega)] | rw [wup_at, if_neg (by omega)])
  · (repeat first | rw [up_at, if_pos (by omega)] | rw [up_at, if_neg (by omega)] | rw [wup_at, if_pos (by omega)] | rw [wup_at, if_neg (by omega)])
  · (repeat first | rw [up_at, if_pos (by omega)] | rw [up_at, if_neg (by omega)] | rw [wup_at, if_pos (by omega)] | rw [wup_at, if_neg (by omega)])
  · (repeat first | rw [up_at, if_pos (by omega)] | rw [up_at, if_neg (by omega)] | rw [wup_at, if_pos (by omega)] | rw [wup_at, if_neg (by omega)])
    omega
  · (repeat first | rw [up_at, if_pos (by omega)] | rw [up_at, if_neg (by omega)] | rw [wup_at, if_pos (by omega)] | rw [wup_at, if_neg (by omega)])
    exact w83 i hi
  · (repeat first | rw [up_at, if_pos (by omega)] | rw [up_at, if_neg (by omega)] | rw [wup_at, if_pos (by omega)] | rw [wup_at, if_neg (by omega)])
  · (repeat first | rw [up_at, if_pos (by omega)] | rw [up_at, if_neg (by omega)] | rw [wup_at, if_pos (by omega)] | rw [wup_at, if_neg (by omega)])
  · (repeat first | rw [up_at, if_pos (by omega)] | rw [up_at, if_neg (by omega)] | rw [wup_at, if_pos (by omega)] | rw [wup_at, if_neg (by omega)])
  · (repeat first | rw [up_at, if_pos (by omega)] | rw [up_at, if_neg (by omega)] | rw [wup_at, if_pos (by omega)] | rw [wup_at, if_neg (by omega)])
  · (repeat first | rw [up_at, if_pos (by omega)] | rw [up_at, if_neg (by omega)] | rw [wup_at, if_pos (by omega)] | rw [wup_at, if_neg (by omega)])
  · (repeat first | rw [up_at, if_pos (by omega)] | rw [up_at, if_neg (by omega)] | rw [wup_at, if_pos (by omega)] | rw [wup_at, if_neg (by omega)])
  · (repeat first | rw [up_at, if_pos (by omega)] | rw [up_at, if_neg (by omega)] | rw [wup_at, if_pos (by omega)] | rw [wup_at, if_neg (by omega)])
  · (repeat first | rw [up_at, if_pos (by omega)] | rw [up_at, if_neg (by omega)] | rw [wup_at, if_pos (by omega)] | rw [wup_at, if_neg (by omega)])
  · (repeat first | rw [up_at, if_pos (by omega)] | rw [up_at, if_neg (by omega)] | rw [wup_at, if_pos (by omega)] | rw [wup_at, if_neg (by omega)])
    rw [wf _ _ z1, mf _ _ (by omega)]
