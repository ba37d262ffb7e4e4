/-! ===== a new object: what its making leaves alone ===== -/
theorem ex_T3 {M : Mem} : ∃ M', T_init3 M = some M' := by
  unfold T_init3 T_clear
  simp only [lt1_eq]
  rw [clear_8, bind_some', clear_96, bind_some', bind_some']
  exact ⟨_, rfl⟩
theorem ex_T15 {M : Mem} : ∃ M', T_init15 M = some M' := by
  unfold T_init15 T_clear
  simp only [lt1_eq]
  rw [clear_8, bind_some', clear_96, bind_some', bind_some']
  exact ⟨_, rfl⟩
theorem ex_N27 {M : Mem} : ∃ M', N_init27 M = some M' ∧ KeptR M' := by
  unfold N_init27 S_init28
  simp only [lt1_eq]
  rw [bind_some']
  generalize up (up (up (up (up (up (up (up (up (up (up (up M 28 0 ((29 : Nat) : Int)) 28 2 ((30 : Nat) : Int)) 28 3 ((31 : Nat) : Int)) 27 1 ((28 : Nat) : Int)) 27 2 ((32 : Nat) : Int)) 27 3 ((33 : Nat) : Int)) 27 4 ((34 : Nat) : Int)) 27 5 ((35 : Nat) : Int)) 27 6 ((36 : Nat) : Int)) 27 7 ((37 : Nat) : Int)) 27 8 ((38 : Nat) : Int)) 27 9 ((39 : Nat) : Int) = M1
  obtain ⟨M', e, hK⟩ := ex_K40 (M := M1)
  rw [e, bind_some']
  exact ⟨_, rfl, fun i hi => by rw [up_c (by decide)]; exact hK i hi⟩
theorem ex_Y42 {M : Mem} : ∃ M', Y_init42 M = some M' := ⟨_, rfl⟩
theorem ex_Y50 {M : Mem} : ∃ M', Y_init50 M = some M' := ⟨_, rfl⟩
theorem ex_Y57 {M : Mem} : ∃ M', Y_init57 M = some M' := ⟨_, rfl⟩
theorem ex_Y64 {M : Mem} : ∃ M', Y_init64 M = some M' := ⟨_, rfl⟩
theorem ex_W71 {M : Mem} : ∃ M', W_init71 M = some M' := ⟨_, rfl⟩
theorem ex_A74 {M : Mem} : ∃ M', A_init74 M = some M' := ⟨_, rfl⟩
theorem ex_P76 {M : Mem} : ∃ M', P_init76 M = some M' := ⟨_, rfl⟩
theorem ex_C78 {M : Mem} : ∃ M', C_init78 M = some M' := ⟨_, rfl⟩
def Ui (c k : Nat) : Prop := 81 ≤ c ∨ (c = 1 ∧ (k = 1 ∨ k = 2 ∨ k = 3 ∨ k = 12)) ∨ (c = 27 ∧ k = 15) ∨ (c = 42 ∧ k = 0) ∨ ((c = 50 ∨ c = 57 ∨ c = 64) ∧ k = 1)
def Vi (c k : Nat) : Prop := Ui c k ∨ c = 41
section INI
variable {M M' : Mem}
theorem u_T3 (e : T_init3 M = some M') (c k : Nat) (h : Vi c k) : M' c k = M c k := fk_T_init3 e c k (by
  cases hh : ws_T_init3 c k with
  | false => rfl
  | true => exact absurd h (by simp [ws_T_init3] at hh; unfold Vi Ui; omega))
theorem u_T15 (e : T_init15 M = some M') (c k : Nat) (h : Vi c k) : M' c k = M c k := fk_T_init15 e c k (by
  cases hh : ws_T_init15 c k with
  | false => rfl
  | true => exact absurd h (by simp [ws_T_init15] at hh; unfold Vi Ui; omega))
theorem u_N27 (e : N_init27 M = some M') (c k : Nat) (h : Ui c k) : M' c k = M c k := fk_N_init27 e c k (by
  cases hh : ws_N_init27 c k with
  | false => rfl
  | true => exact absurd h (by simp [ws_N_init27] at hh; unfold Ui; omega))
theorem u_Y42 (e : Y_init42 M = some M') (c k : Nat) (h : Vi c k) : M' c k = M c k := fk_Y_init42 e c k (by
  cases hh : ws_Y_init42 c k with
  | false => rfl
  | true => exact absurd h (by simp [ws_Y_init42] at hh; unfold Vi Ui; omega))
theorem u_Y50 (e : Y_init50 M = some M') (c k : Nat) (h : Vi c k) : M' c k = M c k := fk_Y_init50 e c k (by
  cases hh : ws_Y_init50 c k with
  | false => rfl
  | true => exact absurd h (by simp [ws_Y_init50] at hh; unfold Vi Ui; omega))
theorem u_Y57 (e : Y_init57 M = some M') (c k : Nat) (h : Vi c k) : M' c k = M c k := fk_Y_init57 e c k (by
  cases hh : ws_Y_init57 c k with
  | false => rfl
  | true => exact absurd h (by simp [ws_Y_init57] at hh; unfold Vi Ui; omega))
theorem u_Y64 (e : Y_init64 M = some M') (c k : Nat) (h : Vi c k) : M' c k = M c k := fk_Y_init64 e c k (by
  cases hh : ws_Y_init64 c k with
  | false => rfl
  | true => exact absurd h (by simp [ws_Y_init64] at hh; unfold Vi Ui; omega))
theorem u_W71 (e : W_init71 M = some M') (c k : Nat) (h : Vi c k) : M' c k = M c k := fk_W_init71 e c k (by
  cases hh : ws_W_init71 c k with
  | false => rfl
  | true => exact absurd h (by simp [ws_W_init71] at hh; unfold Vi Ui; omega))
theorem u_A74 (e : A_init74 M = some M') (c k : Nat) (h : Vi c k) : M' c k = M c k := fk_A_init74 e c k (by
  cases hh : ws_A_init74 c k with
  | false => rfl
  | true => exact absurd h (by simp [ws_A_init74] at hh; unfold Vi Ui; omega))
theorem u_P76 (e : P_init76 M = some M') (c k : Nat) (h : Vi c k) : M' c k = M c k := fk_P_init76 e c k (by
  cases hh : ws_P_init76 c k with
  | false => rfl
  | true => exact absurd h (by simp [ws_P_init76] at hh; unfold Vi Ui; omega))
theorem u_C78 (e : C_init78 M = some M') (c k : Nat) (h : Vi c k) : M' c k = M c k := fk_C_init78 e c k (by
  cases hh : ws_C_init78 c k with
  | false => rfl
  | true => exact absurd h (by simp [ws_C_init78] at hh; unfold Vi Ui; omega))
theorem u_up {a j : Nat} {v : Int} (hn : ¬ Vi a j) (c k : Nat) (h : Vi c k) : up M a j v c k = M c k := by
  rw [up_at, if_neg (by rintro ⟨rfl, rfl⟩; exact hn h)]
theorem init_pre {M : Mem} : ∃ M1, X_init1 M = ((N_readInto 3 0 M1).bind fun M_29 => (N_settle M_29).bind fun M_30 => some M_30) ∧ M1 1 2 = 3 ∧ M1 1 3 = 15 ∧ KeptR M1 ∧ ∀ c k, Ui c k → ¬ (c = 1 ∧ (k = 2 ∨ k = 3)) → M1 c k = M c k := by
  have n1 : ∀ j, ¬ (j = 1 ∨ j = 2 ∨ j = 3 ∨ j = 12) → ¬ Vi 1 j := fun j hj => by unfold Vi Ui; omega
  have n49 : ∀ j, ¬ Vi 49 j := fun j => by unfold Vi Ui; omega
  obtain ⟨M2, e2⟩ := ex_T3 (M := up M 1 0 ((2 : Nat) : Int))
  obtain ⟨M4, e4⟩ := ex_T15 (M := up M2 1 2 ((3 : Nat) : Int))
  obtain ⟨M6, e6, hK⟩ := ex_N27 (M := up M4 1 3 ((15 : Nat) : Int))
  obtain ⟨M8, e8⟩ := ex_Y42 (M := up M6 1 4 ((27 : Nat) : Int))
  obtain ⟨M10, e10⟩ := ex_Y50 (M := up M8 1 5 ((42 : Nat) : Int))
  obtain ⟨M12, e12⟩ := ex_Y57 (M := up M10 49 (Int.toNat 0) ((50 : Nat) : Int))
  obtain ⟨M14, e14⟩ := ex_Y64 (M := up M12 49 (Int.toNat 1) ((57 : Nat) : Int))
  obtain ⟨M17, e17⟩ := ex_W71 (M := up (up M14 49 (Int.toNat 2) ((64 : Nat) : Int)) 1 6 ((49 : Nat) : Int))
  obtain ⟨M19, e19⟩ := ex_A74 (M := up M17 1 7 ((71 : Nat) : Int))
  obtain ⟨M21, e21⟩ := ex_P76 (M := up M19 1 8 ((74 : Nat) : Int))
  obtain ⟨M23, e23⟩ := ex_C78 (M := up M21 1 9 ((76 : Nat) : Int))
  have f6 : ∀ c k, Vi c k → up (up M23 1 10 ((78 : Nat) : Int)) 1 11 ((80 : Nat) : Int) c k = M6 c k := by
    intro c k h
    rw [u_up (n1 11 (by omega)) c k h, u_up (n1 10 (by omega)) c k h, u_C78 e23 c k h, u_up (n1 9 (by omega)) c k h, u_P76 e21 c k h, u_up (n1 8 (by omega)) c k h, u_A74 e19 c k h, u_up (n1 7 (by omega)) c k h, u_W71 e17 c k h, u_up (n1 6 (by omega)) c k h, u_up (n49 _) c k h, u_Y64 e14 c k h, u_up (n49 _) c k h, u_Y57 e12 c k h, u_up (n49 _) c k h, u_Y50 e10 c k h, u_up (n1 5 (by omega)) c k h, u_Y42 e8 c k h, u_up (n1 4 (by omega)) c k h]
  have f4 : ∀ c k, Ui c k → M6 c k = up M4 1 3 ((15 : Nat) : Int) c k := fun c k h => u_N27 e6 c k h
  have f2 : ∀ c k, Vi c k → M4 c k = up M2 1 2 ((3 : Nat) : Int) c k := fun c k h => u_T15 e4 c k h
  have f0 : ∀ c k, Vi c k → M2 c k = M c k := fun c k h => by rw [u_T3 e2 c k h, u_up (n1 0 (by omega)) c k h]
  generalize eM1 : up (up M23 1 10 ((78 : Nat) : Int)) 1 11 ((80 : Nat) : Int) = M1 at f6
  have i12 : M1 1 2 = ((3 : Nat) : Int) := by
    rw [f6 1 2 (by unfold Vi Ui; omega), f4 1 2 (by unfold Ui; omega), up_k (by decide), f2 1 2 (by unfold Vi Ui; omega), up_eq]
  have eX : X_init1 M = ((N_readInto 3 0 M1).bind fun M_29 => (N_settle M_29).bind fun M_30 => some M_30) := by
    unfold X_init1
    rw [lt1_eq, e2, bind_some', lt1_eq, e4, bind_some', lt1_eq, e6, bind_some', lt1_eq, e8, bind_some', lt1_eq, e10, bind_some', lt1_eq, e12, bind_some', lt1_eq, e14, bind_some', lt1_eq, lt1_eq, e17, bind_some', lt1_eq, e19, bind_some', lt1_eq, e21, bind_some', lt1_eq, e23, bind_some', lt1_eq, lt1_eq, eM1, i12, chk_pos (isTI_of rfl (Or.inl rfl)), lt1_eq, tn_nat]
  refine ⟨M1, eX, i12, ?_, fun i hi => ?_, fun c k h hn => ?_⟩
  · rw [f6 1 3 (by unfold Vi Ui; omega), f4 1 3 (by unfold Ui; omega), up_eq]; rfl
  · rw [f6 41 i (Or.inr rfl)]; exact hK i hi
  · rw [f6 c k (Or.inl h), f4 c k h, up_at, if_neg (by omega), f2 c k (Or.inl h), up_at, if_neg (by omega), f0 c k (Or.inl h)]
end INI
