/-! ===== the reference's expressions keep to their bank ===== -/
section BANKE
variable {b : Nat} {M0 M M' : Mem}
theorem Co_fr {h h' : Nat} (hc : Co b M0 M h) (f : ∀ c k, c ≠ 108 → c ≠ 109 → c ≠ 110 → ¬ (c = 81 ∧ (k = 41 ∨ k = 42)) → M' c k = M c k) (e2 : M' 81 42 = (h' : Int)) (hh : h' ≤ 120) (e1 : M' 81 41 = ((cnt (q47 M') h' : Nat) : Int)) (e3 : cnt (q47 M') h' ≤ 7) : Co b M0 M' h' := by
  obtain ⟨⟨a1, a2⟩, h2, h3, h4, -, -, -, -⟩ := hc
  refine ⟨⟨by rw [f _ _ (by omega) (by omega) (by omega) (by omega)]; exact a1, fun c k hp => ?_⟩, ?_, ?_, ?_, e2, hh, e1, e3⟩
  · unfold PB at hp
    rw [f _ _ (by omega) (by omega) (by omega) (by omega)]
    exact a2 c k hp
  · unfold CT
    rw [f 85 _ (by omega) (by omega) (by omega) (by omega), f 86 _ (by omega) (by omega) (by omega) (by omega), f 87 _ (by omega) (by omega) (by omega) (by omega), f 88 _ (by omega) (by omega) (by omega) (by omega), f 89 _ (by omega) (by omega) (by omega) (by omega)]
    exact h2
  · rw [f _ _ (by omega) (by omega) (by omega) (by omega)]; exact h3
  · rw [f _ _ (by omega) (by omega) (by omega) (by omega)]; exact h4
theorem q47_41 {k : Nat} {v : Int} : q47 (up M 81 k v) = q47 M := by
  funext i
  unfold q47
  rw [up_c (by decide)]
theorem opens_A {h : Nat} {w s n : Int} (hc : Co b M0 M h) (hw : n32 w = 4 ∨ n32 w = 7) (hlt : cnt (q47 M) h < 7) : A (fun r : Int × Mem => r.1 = 1 ∧ Co b M0 r.2 (h + 1) ∧ cnt (q47 r.2) (h + 1) = cnt (q47 M) h + 1 ∧ r.2 81 40 = M 81 40 ∧ r.2 90 b = M 90 b) (M_opens w s n M) := by
  unfold M_opens
  refine A_bE (fun M1 e1 => ?_)
  obtain ⟨p1, p2, p3, p4⟩ := push_c hc e1
  rw [if_pos hw] at p4
  refine A_ltE (fun M2 e2 => ?_)
  have h41 : M1 81 41 = ((cnt (q47 M) h : Nat) : Int) := by
    rw [p2 _ _ (by decide) (by decide) (by decide) (by omega)]
    exact hc.2.2.2.2.2.2.1
  have hq : q47 M2 = q47 M1 := by rw [e2]; exact q47_41
  have f2 : ∀ c k, ¬ (c = 81 ∧ k = 41) → M2 c k = M1 c k := fun c k z => by rw [e2, up_at, if_neg z]
  have f41 : M2 81 41 = M1 81 41 + 1 := by rw [e2, up_eq]
  refine A_some ⟨rfl, ?_, by rw [hq]; exact p4, ?_, ?_⟩
  · show Co b M0 M2 (h + 1)
    refine Co_fr hc (fun c k z1 z2 z3 z4 => by rw [f2 _ _ (by omega)]; exact p2 c k z1 z2 z3 (by omega)) (by rw [f2 _ _ (by omega)]; exact p3) (by omega) ?_ ?_
    · rw [f41, hq, h41, p4]; omega
    · rw [hq, p4]; omega
  · dsimp only
    rw [f2 _ _ (by omega)]
    exact p2 _ _ (by omega) (by omega) (by omega) (by omega)
  · dsimp only
    rw [f2 _ _ (by omega)]
    exact p2 _ _ (by omega) (by omega) (by omega) (by omega)
theorem push_A {h : Nat} {w s n : Int} (hc : Co b M0 M h) (hw : ¬ (n32 w = 4 ∨ n32 w = 7)) : A (fun M' => Co b M0 M' (h + 1) ∧ cnt (q47 M') (h + 1) = cnt (q47 M) h ∧ M' 81 40 = M 81 40 ∧ M' 90 b = M 90 b) (M_pushE w s n M) := by
  intro M1 e1
  obtain ⟨p1, p2, p3, p4⟩ := push_c hc e1
  rw [if_neg hw] at p4
  refine ⟨?_, p4, p2 _ _ (by omega) (by omega) (by omega) (by omega), p2 _ _ (by omega) (by omega) (by omega) (by omega)⟩
  refine Co_fr hc (fun c k z1 z2 z3 z4 => p2 c k z1 z2 z3 (by omega)) p3 (by omega) ?_ (by rw [p4]; exact hc.2.2.2.2.2.2.2)
  rw [p2 _ _ (by omega) (by omega) (by omega) (by omega), p4]
  exact hc.2.2.2.2.2.2.1
theorem emit_A {h : Nat} {w n : Int} (hb : b < 2) (hc : Co b M0 M h) (hE : M 81 40 < ((900 * b + 900 : Nat) : Int)) : A (fun M' => Co b M0 M' h ∧ cnt (q47 M') h = cnt (q47 M) h ∧ M' 81 40 = M 81 40 + 1 ∧ M' 90 b = M 90 b) (M_emit w n M) := by
  obtain ⟨h1, h2, h3, h4, h5, h6, h7, h8⟩ := hc
  obtain ⟨e, he⟩ : ∃ e : Nat, M 81 40 = (e : Int) := ⟨(M 81 40).toNat, by omega⟩
  unfold M_emit
  simp only [lt1_eq]
  rw [up_c (by decide), up_c (by decide), up_c (by decide), he, tn_nat]
  refine A_chk (fun _ => A_chk (fun _ => A_some ?_))
  rw [he] at h4 hE
  have hq : q47 (up (up (up M 106 e w) 107 e n) 81 40 ((e : Int) + 1)) = q47 M := by
    funext i
    unfold q47
    rw [up_c (by decide), up_c (by decide), up_c (by decide)]
  refine ⟨⟨?_, CT_up (CT_up (CT_up h2 (by omega)) (by omega)) (by omega), ?_, ?_, ?_, h6, ?_, by rw [hq]; exact h8⟩, by rw [hq], up_eq, ?_⟩
  · refine BF_up (BF_up (BF_up h1 ?_) ?_) ?_ <;> · unfold PB; omega
  · rw [up_c (by decide), up_c (by decide), up_c (by decide)]; exact h3
  · rw [up_eq]; omega
  · rw [up_k (by decide), up_c (by decide), up_c (by decide)]; exact h5
  · rw [hq, up_k (by decide), up_c (by decide), up_c (by decide)]; exact h7
  · rw [up_c (by decide), up_c (by decide), up_c (by decide)]
theorem Co_u {h : Nat} {v : Int} (hc : Co b M0 M h) (hv : 0 ≤ v ∧ v ≤ 80) : Co b M0 (up M 90 b v) h ∧ q47 (up M 90 b v) = q47 M := by
  have hq : q47 (up M 90 b v) = q47 M := by
    funext i
    unfold q47
    rw [up_c (by decide)]
  obtain ⟨h1, h2, h3, h4, h5, h6, h7, h8⟩ := hc
  refine ⟨⟨BF_up h1 (by unfold PB; omega), CT_up h2 (by omega), by rw [up_eq]; exact hv, ?_, ?_, h6, ?_, by rw [hq]; exact h8⟩, hq⟩
  · rw [up_c (by decide)]; exact h4
  · rw [up_c (by decide)]; exact h5
  · rw [hq, up_c (by decide)]; exact h7
theorem good_of {x : Int} (h : ¬ n32 (if n32 x = 0 then (1 : Int) else 0) = 0) : n32 x = 0 := by
  refine Decidable.byContradiction (fun q => ?_)
  rw [if_neg q] at h
  exact h (by decide)
theorem U79 (h : 0 ≤ M 90 b ∧ M 90 b ≤ 80) (q : n32 (M 90 b) ≠ 80) : M 90 b ≤ 79 := by
  rw [n32_of (by omega) (by omega)] at q
  omega
theorem D7 {h : Nat} (hc : Co b M0 M h) (q : n32 (M 81 41) ≠ 7) : cnt (q47 M) h < 7 := by
  obtain ⟨-, -, -, -, -, -, h7, h8⟩ := hc
  rw [h7, n32_nat (by omega)] at q
  omega
theorem part_A (hb : b < 2) (hc : I1 b M0 M) : A (IE b M0) (M_part M) := by
  have hc0 := hc
  obtain ⟨h, hCo, hh1, hE⟩ := hc
  have h39 := hCo.1.1
  have hU := hCo.2.2.1
  have h8 := hCo.2.2.2.2.2.2.2
  unfold M_part
  refine A_bT (fun r_1 => ?_)
  refine A_bT (fun v_2 => ?_)
  refine A_bind (J := fun M' => Qk M M' ∧ (n32 (M' 81 4) = 0 → M' = M ∧ n32 (M 90 b) ≠ 80 ∧ (¬ n32 r_1 = 0 → n32 (M 81 41) ≠ 7))) ?_ ?_
  · refine A_jn (J := fun _ => True) (fun _ _ => ?_) (fun j_19 hj => ?_)
    · exact A_bE (fun M_37 e => A_some ⟨q_misp e, fun g => absurd g (misp_bad e)⟩)
    · rw [h39, tn_nat]
      have key : A (fun c : Bool => c = true → n32 (M 90 b) ≠ 80) (chk (0 ≤ (b : Int) ∧ (b : Int) < 2) (if ¬ n32 (M 90 b) = 80 then some true else some false)) := A_chk (fun _ => A_ite (fun q => A_some (fun _ => q)) (fun _ => A_some (fun z => by cases z)))
      refine A_bind (J := fun c : Bool => c = true → n32 (M 90 b) ≠ 80) (A_ite (fun _ => A_ite (fun _ => key) (fun _ => A_some (fun z => by cases z))) (fun _ => key)) (fun c hc' => ?_)
      refine A_ite (fun hct => ?_) (fun _ => hj _ trivial)
      refine A_ite (fun _ => hj _ trivial) (fun hn => ?_)
      exact A_some ⟨Qk_rfl, fun _ => ⟨rfl, hc' hct, fun hr h7 => hn ⟨hr, h7⟩⟩⟩
  · rintro M_15 ⟨hq, hg⟩
    try dsimp only
    rw [good_eq, bind_some']
    refine A_ite (fun _ => A_some (Or.inr ⟨by dsimp only; decide, I1_q hc0 hq⟩)) (fun hgd => ?_)
    obtain ⟨e15, hU80, hD⟩ := hg (good_of hgd)
    rw [e15, h39, tn_nat]
    refine A_chk (fun _ => ?_)
    have hU79 := U79 hU hU80
    obtain ⟨Co41, hq41⟩ := Co_u (v := M 90 b + 1) hCo (by omega)
    have v41 : up M 90 b (M 90 b + 1) 81 40 = M 81 40 := up_c (by decide)
    have u41 : up M 90 b (M 90 b + 1) 90 b = M 90 b + 1 := up_eq
    refine A_ltE (fun M_41 e41 => ?_)
    rw [← e41] at Co41 hq41 v41 u41
    refine A_lt (fun l3 => ?_)
    refine A_bE (fun M_43 e43 => ?_)
    have q43 := q_goOn e43
    have Co43 := Co_q Co41 q43
    have v43 : M_43 81 40 = M 81 40 := (q43 _ _ (by omega)).trans v41
    have u43 : M_43 90 b = M 90 b + 1 := (q43 _ _ (by omega)).trans u41
    have hq43 : q47 M_43 = q47 M := (q47_q q43).trans hq41
    refine A_ite (fun hr => ?_) (fun _ => ?_)
    · refine A_bind (opens_A Co43 (by decide) (by rw [hq43]; exact D7 hCo (hD hr))) ?_
      rintro ⟨r, M'⟩ ⟨e1, c1, c2, c3, c4⟩
      dsimp only at e1 c1 c2 c3 c4 ⊢
      subst e1
      rw [hq43] at c2
      exact A_chk (fun _ => A_some (Or.inr ⟨by dsimp only; decide, h + 1, c1, by omega, by dsimp only; rw [c2, c3, c4, v43, u43]; omega⟩))
    · refine A_bind (emit_A hb Co43 (by rw [v43]; omega)) ?_
      rintro M' ⟨c1, c2, c3, c4⟩
      exact A_some (Or.inl ⟨by dsimp only; decide, h, c1, by dsimp only; rw [c3, c4, v43, u43]; omega⟩)
theorem mindful_A {h : Nat} {s : Int} (hc : Co b M0 M h) (hlt : cnt (q47 M) h < 7) : A (fun r : Int × Mem => r.1 = 1 ∧ Co b M0 r.2 (h + 1) ∧ cnt (q47 r.2) (h + 1) = cnt (q47 M) h + 1 ∧ r.2 81 40 = M 81 40 ∧ r.2 90 b = M 90 b) (M_mindful s M) := by
  unfold M_mindful
  refine A_bE (fun M_1 e1 => ?_)
  refine A_ltE (fun M_2 e2 => ?_)
  refine A_bT (fun r_3 => ?_)
  refine A_bE (fun x e5 => ?_)
  obtain ⟨r_4, M_5⟩ := x
  have q5 : Qk M M_5 := Qk_tr (Qk_tr (q_goOn e1) (by rw [e2]; exact Qk_up (by omega))) (q_told e5)
  try dsimp only
  refine A_bind (opens_A (Co_q hc q5) (by decide) (by rw [q47_q q5]; exact hlt)) ?_
  rintro ⟨r, M'⟩ ⟨z1, c1, c2, c3, c4⟩
  dsimp only at z1 c1 c2 c3 c4 ⊢
  exact A_chk (fun _ => A_some ⟨z1, c1, by rw [q47_q q5] at c2; exact c2, c3.trans (q5 _ _ (by omega)), c4.trans (q5 _ _ (by omega))⟩)
theorem unit_A (hb : b < 2) (hc : I1 b M0 M) : A (IE b M0) (M_unit M) := by
  have hc0 := hc
  obtain ⟨h, hCo, hh1, hE⟩ := hc
  have h39 := hCo.1.1
  have hU := hCo.2.2.1
  have h8 := hCo.2.2.2.2.2.2.2
  unfold M_unit
  refine A_bT (fun r_1 => ?_)
  refine A_bT (fun r_2 => ?_)
  refine A_bT (fun v_3 => ?_)
  refine A_bT (fun r_13 => ?_)
  refine A_bind (J := fun v : Int => n32 v = 0 ↔ (n32 r_1 = 0 ∧ n32 v_3 = 0)) ?_ ?_
  · refine A_ite (fun q => A_some ⟨fun z => absurd z (by decide), fun ⟨z1, z2⟩ => ?_⟩) (fun q => A_some ⟨fun _ => ?_, fun _ => by decide⟩)
    · rcases q with q | q
      · exact absurd z1 q
      · exact absurd z2 q
    · exact ⟨Decidable.byContradiction fun z => q (Or.inl z), Decidable.byContradiction fun z => q (Or.inr z)⟩
  intro v_14 hv14
  try dsimp only
  refine A_bind (J := fun M' => Qk M M' ∧ (n32 (M' 81 4) = 0 → M' = M ∧ (n32 v_14 = 0 → n32 (M 90 b) ≠ 80 ∧ (¬ n32 r_13 = 0 → n32 (M 81 41) ≠ 7)) ∧ (¬ n32 v_14 = 0 → n32 (M 81 41) ≠ 7))) ?_ ?_
  · refine A_jn (J := fun _ => True) (fun _ _ => ?_) (fun j_28 hj28 => ?_)
    · exact A_bE (fun M_37 e => A_some ⟨q_misp e, fun g => absurd g (misp_bad e)⟩)
    · refine A_jn (J := fun _ => n32 v_14 = 0 → n32 (M 90 b) ≠ 80) (fun _ hU80 => ?_) (fun j_31 hj31 => ?_)
      · refine A_ite (fun q => ?_) (fun _ => hj28 _ trivial)
        refine A_ite (fun _ => hj28 _ trivial) (fun _ => A_some ⟨Qk_rfl, fun _ => ⟨rfl, fun z => ⟨hU80 z, fun z13 => ?_⟩, fun z => ?_⟩⟩)
        · rcases q with ⟨-, q | q⟩ | ⟨q, -⟩
          · exact absurd q z13
          · exact q
          · exact absurd z q
        · rcases q with ⟨q, -⟩ | ⟨-, q⟩
          · exact absurd q z
          · exact q
      · rw [h39, tn_nat]
        have key : A (fun c : Bool => c = true → n32 (M 90 b) ≠ 80) (chk (0 ≤ (b : Int) ∧ (b : Int) < 2) (if ¬ n32 (M 90 b) = 80 then some true else some false)) := A_chk (fun _ => A_ite (fun q => A_some (fun _ => q)) (fun _ => A_some (fun z => by cases z)))
        refine A_ite (fun q14 => ?_) (fun q14 => hj31 _ (fun z => absurd z q14))
        refine A_bind (J := fun c : Bool => c = true → n32 (M 90 b) ≠ 80) (A_ite (fun _ => A_ite (fun _ => key) (fun _ => A_some (fun z => by cases z))) (fun _ => key)) (fun c hc' => ?_)
        exact A_ite (fun hct => hj31 _ (fun _ => hc' hct)) (fun _ => hj28 _ trivial)
  rintro M_24 ⟨hq, hg⟩
  rw [good_eq, bind_some']
  refine A_ite (fun _ => A_some (Or.inr ⟨by dsimp only; decide, I1_q hc0 hq⟩)) (fun hgd => ?_)
  obtain ⟨e24, hz, hnz⟩ := hg (good_of hgd)
  rw [e24]
  refine A_ite (fun q3 => ?_) (fun q3 => ?_)
  · have hlt := D7 hCo (hnz (fun z => q3 (hv14.mp z).2))
    refine A_bT (fun r_62 => ?_)
    refine A_bT (fun v_63 => ?_)
    refine A_bind (mindful_A hCo hlt) ?_
    rintro ⟨r, M'⟩ ⟨e1, c1, c2, c3, c4⟩
    dsimp only at e1 c1 c2 c3 c4 ⊢
    subst e1
    exact A_chk (fun _ => A_some (Or.inr ⟨by dsimp only; decide, h + 1, c1, by omega, by dsimp only; rw [c2, c3, c4]; omega⟩))
  refine A_ite (fun q1 => ?_) (fun q1 => ?_)
  · have hlt := D7 hCo (hnz (fun z => q1 (hv14.mp z).1))
    refine A_bE (fun M_71 e71 => ?_)
    have q71 := q_goOn e71
    refine A_bind (opens_A (Co_q hCo q71) (by decide) (by rw [q47_q q71]; exact hlt)) ?_
    rintro ⟨r, M'⟩ ⟨e1, c1, c2, c3, c4⟩
    dsimp only at e1 c1 c2 c3 c4 ⊢
    subst e1
    rw [q47_q q71] at c2
    exact A_chk (fun _ => A_some (Or.inr ⟨by dsimp only; decide, h + 1, c1, by omega, by dsimp only; rw [c2, c3, c4, q71 _ _ (by omega), q71 _ _ (by omega)]; omega⟩))
  obtain ⟨hU80, hD⟩ := hz (hv14.mpr ⟨Decidable.byContradiction fun z => q1 z, Decidable.byContradiction fun z => q3 z⟩)
  rw [h39, tn_nat]
  refine A_chk (fun _ => ?_)
  have hU79 := U79 hU hU80
  obtain ⟨Co41, hq41⟩ := Co_u (v := M 90 b + 1) hCo (by omega)
  have v41 : up M 90 b (M 90 b + 1) 81 40 = M 81 40 := up_c (by decide)
  have u41 : up M 90 b (M 90 b + 1) 90 b = M 90 b + 1 := up_eq
  refine A_ltE (fun M_77 e77 => ?_)
  rw [← e77] at Co41 hq41 v41 u41
  refine A_ite (fun q13 => ?_) (fun _ => ?_)
  · refine A_bE (fun M_78 e78 => ?_)
    have q78 := q_goOn e78
    have hq78 : q47 M_78 = q47 M := (q47_q q78).trans hq41
    refine A_bind (opens_A (Co_q Co41 q78) (by decide) (by rw [hq78]; exact D7 hCo (hD q13))) ?_
    rintro ⟨r, M'⟩ ⟨e1, c1, c2, c3, c4⟩
    dsimp only at e1 c1 c2 c3 c4 ⊢
    subst e1
    rw [hq78] at c2
    exact A_chk (fun _ => A_some (Or.inr ⟨by dsimp only; decide, h + 1, c1, by omega, by dsimp only; rw [c2, c3, c4, q78 _ _ (by omega), q78 _ _ (by omega), v41, u41]; omega⟩))
  refine A_bT (fun r_82 => ?_)
  refine A_bT (fun r_83 => ?_)
  refine A_bind (J := fun M' => Qk M_77 M') ?_ ?_
  · refine A_ite (fun _ => ?_) (fun _ => A_some Qk_rfl)
    refine A_jn (J := fun _ => True) (fun _ _ => A_bE (fun M_99 e => A_some (q_fails e))) (fun j_88 hj => ?_)
    refine A_ite (fun _ => ?_) (fun _ => hj _ trivial)
    refine A_bT (fun c_95 => ?_)
    exact A_ite (fun _ => hj _ trivial) (fun _ => A_some Qk_rfl)
  intro M_84 q84
  have Co84 := Co_q Co41 q84
  have v84 : M_84 81 40 = M 81 40 := (q84 _ _ (by omega)).trans v41
  have u84 : M_84 90 b = M 90 b + 1 := (q84 _ _ (by omega)).trans u41
  have hq84 : q47 M_84 = q47 M := (q47_q q84).trans hq41
  try dsimp only
  rw [good_eq, bind_some']
  refine A_ite (fun _ => A_some (Or.inr ⟨by dsimp only; decide, h, Co84, hh1, by dsimp only; rw [hq84, v84, u84]; omega⟩)) (fun _ => ?_)
  refine A_bT (fun v_102 => ?_)
  refine A_chk (fun _ => ?_)
  refine A_ltE (fun M_118 e118 => ?_)
  have q118 : Qk M_84 M_118 := by rw [e118]; exact Qk_up (by omega)
  refine A_bT (fun v_119 => ?_)
  refine A_bT (fun v_124 => ?_)
  refine A_bind (emit_A hb (Co_q Co84 q118) (by rw [q118 _ _ (by omega), v84]; omega)) ?_
  rintro M_129 ⟨c1, c2, c3, c4⟩
  try dsimp only
  refine A_bE (fun M_130 e130 => ?_)
  have q130 := q_goOn e130
  refine A_some (Or.inl ⟨by dsimp only; decide, h, Co_q c1 q130, ?_⟩)
  try dsimp only
  rw [q130 _ _ (by omega), q130 _ _ (by omega), c3, c4, q118 _ _ (by omega), q118 _ _ (by omega), v84, u84]
  omega
end BANKE
