/-! ===== the reference's lines keep to their bank: the lines ===== -/
section BANKL
variable {b : Nat} {M0 M M' : Mem}
theorem BA_up {c k : Nat} {v : Int} (h : BA b M0 M) (hc : ¬ PB b c k) (h1 : ¬ (85 ≤ c ∧ c ≤ 90)) (h2 : ¬ (c = 81 ∧ k = 40)) : BA b M0 (up M c k v) := by
  obtain ⟨hF, hC, hU, hE1, hE2⟩ := h
  refine ⟨BF_up hF hc, CT_up hC (by omega), ?_⟩
  unfold SU
  rw [up_c (by omega), up_at, if_neg (by omega)]
  exact ⟨hU, hE1, hE2⟩
theorem BE_up {c k : Nat} {v : Int} (h : BE b M0 M) (hc : ¬ PB b c k) (h1 : ¬ (85 ≤ c ∧ c ≤ 90)) (h2 : ¬ (c = 81 ∧ (k = 40 ∨ k = 4))) : BE b M0 (up M c k v) := by
  obtain ⟨hF, hC, hS, hG⟩ := h
  refine ⟨BF_up hF hc, CT_up hC (by omega), ?_⟩
  unfold SU
  rw [up_c (by omega), up_at, if_neg (by omega), up_at, if_neg (by omega)]
  exact ⟨hS, hG⟩
def cntC (c : Nat) (v : Int) : Prop := (c = 85 ∧ v ≤ 8) ∨ (c = 86 ∧ v ≤ 12) ∨ (c = 87 ∧ v ≤ 4) ∨ (c = 88 ∧ v ≤ 12) ∨ (c = 89 ∧ v ≤ 12)
theorem CT_cnt {c : Nat} {v : Int} (h : CT b M) (hc : cntC c v) (h0 : 0 ≤ v) : CT b (up M c b v) := by
  obtain ⟨h1, h2, h3, h4, h5⟩ := h
  unfold cntC at hc
  refine ⟨?_, ?_, ?_, ?_, ?_⟩
  · rw [up_at]; by_cases q : 85 = c ∧ b = b
    · rw [if_pos q]; omega
    · rw [if_neg q]; exact h1
  · rw [up_at]; by_cases q : 86 = c ∧ b = b
    · rw [if_pos q]; omega
    · rw [if_neg q]; exact h2
  · rw [up_at]; by_cases q : 87 = c ∧ b = b
    · rw [if_pos q]; omega
    · rw [if_neg q]; exact h3
  · rw [up_at]; by_cases q : 88 = c ∧ b = b
    · rw [if_pos q]; omega
    · rw [if_neg q]; exact h4
  · rw [up_at]; by_cases q : 89 = c ∧ b = b
    · rw [if_pos q]; omega
    · rw [if_neg q]; exact h5
theorem cntC_pb {c : Nat} {v : Int} (hc : cntC c v) : (¬ PB b c b) ∧ 85 ≤ c ∧ c ≤ 89 := by
  unfold cntC at hc
  exact ⟨by unfold PB; omega, by omega, by omega⟩
theorem BA_cnt {c : Nat} {v : Int} (h : BA b M0 M) (hc : cntC c v) (h0 : 0 ≤ v) : BA b M0 (up M c b v) := by
  obtain ⟨hp, h1, h2⟩ := cntC_pb (b := b) hc
  obtain ⟨hF, hC, hU, hE1, hE2⟩ := h
  refine ⟨BF_up hF hp, CT_cnt hC hc h0, ?_⟩
  unfold SU
  rw [up_c (by omega), up_at, if_neg (by omega)]
  exact ⟨hU, hE1, hE2⟩
theorem BE_cnt {c : Nat} {v : Int} (h : BE b M0 M) (hc : cntC c v) (h0 : 0 ≤ v) : BE b M0 (up M c b v) := by
  obtain ⟨hp, h1, h2⟩ := cntC_pb (b := b) hc
  obtain ⟨hF, hC, hS, hG⟩ := h
  refine ⟨BF_up hF hp, CT_cnt hC hc h0, ?_⟩
  unfold SU
  rw [up_c (by omega), up_at, if_neg (by omega), up_at, if_neg (by omega)]
  exact ⟨hS, hG⟩
theorem fact_A (h : BA b M0 M) : A (BA b M0) (M_readFact M) := by
  have h39 := h.1.1
  unfold M_readFact
  refine A_chk (fun _ => A_bT (fun r_3 => A_bT (fun v_4 => A_bE (fun x e => ?_))))
  obtain ⟨r_14, M_15⟩ := x
  have h15 := BA_q h (q_fresh e)
  try dsimp only
  refine A_chk (fun _ => A_ltE (fun M_18 e18 => ?_))
  have h18 : BA b M0 M_18 := by
    rw [e18]
    exact BA_up h15 (by unfold PB; omega) (by omega) (by omega)
  refine A_chk (fun _ => A_ltE (fun M_21 e21 => A_some ?_))
  rw [e21, h18.1.1, tn_nat]
  exact BA_up h18 (by unfold PB; omega) (by omega) (by omega)
theorem told_A {w : Int} (h : BA b M0 M) : A (fun r : Int × Mem => BA b M0 r.2) (M_told w M) := fun ⟨_, _⟩ e => BA_q h (q_told e)
theorem after_A {w x : Int} (h : BA b M0 M) : A (fun r : Int × Mem => BA b M0 r.2) (M_after w x M) := fun ⟨_, _⟩ e => BA_q h (q_after e)
theorem fresh_A {w : Int} (h : BA b M0 M) : A (fun r : Int × Mem => BA b M0 r.2) (M_fresh w M) := fun ⟨_, _⟩ e => BA_q h (q_fresh e)
theorem goOn_A (h : BA b M0 M) : A (BA b M0) (M_goOn M) := fun _ e => BA_q h (q_goOn e)
theorem person_A (h : BA b M0 M) (h85 : M 85 b < 8) : A (BA b M0) (M_readPerson M) := by
  have h39 := h.1.1
  obtain ⟨m, hm⟩ : ∃ m : Nat, M 85 b = (m : Int) := ⟨(M 85 b).toNat, by have := h.2.1.1; omega⟩
  unfold M_readPerson
  rw [h39, tn_nat, hm, show (8 : Int) * (b : Int) + (m : Int) = ((8 * b + m : Nat) : Int) by omega]
  refine A_chk (fun _ => A_ltE (fun l1_3 hl => A_bT (fun r_4 => A_bT (fun v_5 => A_bE (fun x e => ?_)))))
  subst hl
  obtain ⟨r_10, M_11⟩ := x
  have q11 := q_fresh e
  have h11 := BA_q h q11
  try dsimp only
  rw [tn_nat]
  refine A_chk (fun _ => A_ltE (fun M_14 e14 => ?_))
  have h14 : BA b M0 M_14 := by
    rw [e14]
    exact BA_up h11 (by unfold PB; omega) (by omega) (by omega)
  refine A_bE (fun x e16 => ?_)
  obtain ⟨r_15, M_16⟩ := x
  have q16 := q_after e16
  have h16 := BA_q h14 q16
  try dsimp only
  refine A_ltE (fun M_17 e17 => ?_)
  have h17 : BA b M0 M_17 := by
    rw [e17]
    exact BA_up h16 (by unfold PB; omega) (by omega) (by omega)
  refine A_ltE (fun M_18 e18 => ?_)
  have h18 : BA b M0 M_18 := by
    rw [e18]
    exact BA_up h17 (by unfold PB; omega) (by omega) (by omega)
  have v18 : M_18 85 b = (m : Int) := by
    rw [e18, up_c (by decide), e17, up_c (by decide), q16 _ _ (by omega), e14, up_c (by decide), q11 _ _ (by omega), hm]
  rw [h18.1.1, tn_nat, v18]
  refine A_chk (fun _ => A_ltE (fun M_21 e21 => ?_))
  have h21 : BA b M0 M_21 := by
    rw [e21]
    exact BA_cnt h18 (Or.inl ⟨rfl, by omega⟩) (by omega)
  refine A_bT (fun r_22 => A_bT (fun c_27 => A_ite (fun _ => A_some h21) (fun _ => ?_)))
  refine A_bind (goOn_A h21) (fun M_29 h29 => ?_)
  try dsimp only
  refine A_bind (A_it (I := fun x : Int × Mem => BA b M0 x.2) (K := BA b M0) ?_ h29) (fun M' h' => A_some h')
  rintro ⟨l, M5⟩ h5
  dsimp only at h5
  unfold M_readPerson_b99
  try dsimp only
  refine A_bT (fun r_39 => A_ite (fun _ => A_ite (fun _ => ?_) (fun _ => A_some h5)) (fun _ => A_some h5))
  refine A_bT (fun r_40 => A_bind (J := BA b M0) ?_ (fun M_41 h41 => ?_))
  · exact A_bT (fun c_49 => A_ite (fun _ => A_bE (fun M_50 e => A_some (BA_q h5 (q_fails e)))) (fun _ => A_some h5))
  · try dsimp only
    refine A_bind (told_A h41) ?_
    rintro ⟨r_51, M_52⟩ h52
    dsimp only at h52 ⊢
    refine A_ltE (fun M_53 e53 => A_some ?_)
    show BA b M0 M_53
    rw [e53]
    exact BA_up h52 (by unfold PB; omega) (by omega) (by omega)
theorem tie_A (h : BA b M0 M) (h88 : M 88 b < 12) : A (BA b M0) (M_readTie M) := by
  have h39 := h.1.1
  obtain ⟨m, hm⟩ : ∃ m : Nat, M 88 b = (m : Int) := ⟨(M 88 b).toNat, by have := h.2.1.2.2.2.1; omega⟩
  unfold M_readTie
  rw [h39, tn_nat, hm, show (12 : Int) * (b : Int) + (m : Int) = ((12 * b + m : Nat) : Int) by omega]
  refine A_chk (fun _ => A_ltE (fun l1_3 hl => A_bT (fun r_4 => A_bE (fun x e => ?_))))
  subst hl
  obtain ⟨r_5, M_6⟩ := x
  have q6 := q_told e
  have h6 := BA_q h q6
  try dsimp only
  rw [tn_nat]
  refine A_bT (fun r_7 => A_bT (fun v_8 => A_lt (fun l5 => A_bT (fun l4 => A_bT (fun r_54 => A_bind (J := fun M' => BA b M0 M' ∧ M' 88 b = (m : Int)) ?_ ?_)))))
  · refine A_ite (fun _ => A_bE (fun M_59 e59 => A_some ⟨BA_q h6 (q_fails e59), ?_⟩)) (fun _ => A_some ⟨h6, ?_⟩)
    · rw [q_fails e59 _ _ (by omega), q6 _ _ (by omega), hm]
    · rw [q6 _ _ (by omega), hm]
  · rintro M_55 ⟨h55, v55⟩
    try dsimp only
    refine A_chk (fun _ => A_ltE (fun M_68 e68 => ?_))
    have h68 : BA b M0 M_68 := by
      rw [e68]
      exact BA_up h55 (by unfold PB; omega) (by omega) (by omega)
    refine A_bE (fun x e70 => ?_)
    obtain ⟨r_69, M_70⟩ := x
    have q70 := q_told e70
    have h70 := BA_q h68 q70
    try dsimp only
    refine A_ltE (fun M_71 e71 => ?_)
    have h71 : BA b M0 M_71 := by
      rw [e71]
      exact BA_up h70 (by unfold PB; omega) (by omega) (by omega)
    refine A_bE (fun x e73 => ?_)
    obtain ⟨r_72, M_73⟩ := x
    have q73 := q_after e73
    have h73 := BA_q h71 q73
    try dsimp only
    refine A_ltE (fun M_74 e74 => ?_)
    have h74 : BA b M0 M_74 := by
      rw [e74]
      exact BA_up h73 (by unfold PB; omega) (by omega) (by omega)
    have v74 : M_74 88 b = (m : Int) := by
      rw [e74, up_c (by decide), q73 _ _ (by omega), e71, up_c (by decide), q70 _ _ (by omega), e68, up_c (by decide), v55]
    rw [h74.1.1, tn_nat, v74]
    refine A_chk (fun _ => A_ltE (fun M_77 e77 => A_some ?_))
    rw [e77]
    exact BA_cnt h74 (Or.inr (Or.inr (Or.inr (Or.inl ⟨rfl, by omega⟩)))) (by omega)
theorem wish_A (h : BA b M0 M) (h89 : M 89 b < 12) : A (BA b M0) (M_readWish M) := by
  have h39 := h.1.1
  obtain ⟨m, hm⟩ : ∃ m : Nat, M 89 b = (m : Int) := ⟨(M 89 b).toNat, by have := h.2.1.2.2.2.2; omega⟩
  unfold M_readWish
  rw [h39, tn_nat, hm, show (12 : Int) * (b : Int) + (m : Int) = ((12 * b + m : Nat) : Int) by omega]
  refine A_chk (fun _ => A_ltE (fun l1_3 hl => A_bT (fun r_4 => A_bE (fun x e => ?_))))
  subst hl
  obtain ⟨r_5, M_6⟩ := x
  have q6 := q_told e
  have h6 : BA b M0 M_6 ∧ M_6 89 b = (m : Int) := ⟨BA_q h q6, by rw [q6 _ _ (by omega), hm]⟩
  try dsimp only
  rw [tn_nat]
  refine A_bT (fun r_7 => A_lt (fun l4 => A_bind (A_it (I := fun x : Int × Mem => BA b M0 x.2 ∧ x.2 89 b = (m : Int)) (K := fun M' => BA b M0 M' ∧ M' 89 b = (m : Int)) ?_ h6) ?_))
  · rintro ⟨l, M5⟩ h5
    dsimp only at h5
    unfold M_readWish_b41
    try dsimp only
    refine A_bT (fun c_22 => A_ite (fun _ => ?_) (fun _ => A_some h5))
    refine A_bind (J := fun M' => BA b M0 M' ∧ M' 89 b = (m : Int)) ?_ (fun M_24 h24 => A_lt (fun _ => A_some h24))
    exact A_bT (fun c_32 => A_ite (fun _ => A_bE (fun M_35 e => A_some ⟨BA_q h5.1 (q_fails e), by rw [q_fails e _ _ (by omega)]; exact h5.2⟩)) (fun _ => A_some h5))
  · rintro M_17 ⟨h17, v17⟩
    try dsimp only
    refine A_chk (fun _ => A_ltE (fun M_39 e39 => ?_))
    have h39' : BA b M0 M_39 := by
      rw [e39]
      exact BA_up h17 (by unfold PB; omega) (by omega) (by omega)
    refine A_bE (fun x e41 => ?_)
    obtain ⟨r_40, M_41⟩ := x
    have q41 := q_told e41
    have h41 := BA_q h39' q41
    try dsimp only
    refine A_ltE (fun M_42 e42 => ?_)
    have h42 : BA b M0 M_42 := by
      rw [e42]
      exact BA_up h41 (by unfold PB; omega) (by omega) (by omega)
    refine A_bE (fun x e44 => ?_)
    obtain ⟨r_43, M_44⟩ := x
    have q44 := q_after e44
    have h44 := BA_q h42 q44
    try dsimp only
    refine A_ltE (fun M_45 e45 => ?_)
    have h45 : BA b M0 M_45 := by
      rw [e45]
      exact BA_up h44 (by unfold PB; omega) (by omega) (by omega)
    have v45 : M_45 89 b = (m : Int) := by
      rw [e45, up_c (by decide), q44 _ _ (by omega), e42, up_c (by decide), q41 _ _ (by omega), e39, up_c (by decide), v17]
    rw [h45.1.1, tn_nat, v45]
    refine A_chk (fun _ => A_ltE (fun M_48 e48 => A_some ?_))
    rw [e48]
    exact BA_cnt h45 (Or.inr (Or.inr (Or.inr (Or.inr ⟨rfl, by omega⟩)))) (by omega)
end BANKL
