/-! ===== the reference's lines keep to their bank ===== -/
section BANKF
variable {b : Nat} {M0 M M' : Mem}
theorem rank_A : A (fun r : Int => r = 0 ∨ r = 1 ∨ r = 2 ∨ r = 3 ∨ r = 5 ∨ r = 6) (M_rankHere M) := by
  unfold M_rankHere
  refine A_bT (fun _ => A_ite (fun _ => A_some (by decide)) (fun _ => A_ite (fun _ => ?_) (fun _ => ?_)))
  · refine A_bT (fun _ => A_bT (fun _ => A_ite (fun _ => A_some (by decide)) (fun _ => ?_)))
    exact A_bT (fun _ => A_bT (fun _ => A_ite (fun _ => A_some (by decide)) (fun _ => A_some (by decide))))
  · refine A_bT (fun _ => A_ite (fun _ => A_some (by decide)) (fun _ => ?_))
    exact A_bT (fun _ => A_ite (fun _ => A_some (by decide)) (fun _ => A_some (by decide)))
theorem pop4 {h : Nat} (hc : Co b M0 M (h + 1)) (q : q47 M h = true) : Co b M0 (up (up M 81 42 (h : Int)) 81 41 (M 81 41 - 1)) h := by
  have hq : q47 (up (up M 81 42 (h : Int)) 81 41 (M 81 41 - 1)) = q47 M := by rw [q47_41, q47_41]
  have e : cnt (q47 M) (h + 1) = cnt (q47 M) h + 1 := by
    show cnt (q47 M) h + (if q47 M h then 1 else 0) = _
    rw [q]; rfl
  have h7 := hc.2.2.2.2.2.2.1
  have h8 := hc.2.2.2.2.2.2.2
  have h6 := hc.2.2.2.2.2.1
  refine Co_fr hc (fun c k _ _ _ z => by rw [up_at, if_neg (by omega), up_at, if_neg (by omega)]) (by rw [up_k (by decide), up_eq]) (by omega) ?_ ?_
  · rw [up_eq, hq, h7, e]; omega
  · rw [hq]; omega
theorem pop0 {h : Nat} (hc : Co b M0 M (h + 1)) (q : q47 M h = false) : Co b M0 (up M 81 42 (h : Int)) h := by
  have hq : q47 (up M 81 42 (h : Int)) = q47 M := q47_41
  have e : cnt (q47 M) (h + 1) = cnt (q47 M) h := by
    show cnt (q47 M) h + (if q47 M h then 1 else 0) = _
    rw [q]; rfl
  have h7 := hc.2.2.2.2.2.2.1
  have h8 := hc.2.2.2.2.2.2.2
  have h6 := hc.2.2.2.2.2.1
  refine Co_fr hc (fun c k _ _ _ z => by rw [up_at, if_neg (by omega)]) up_eq (by omega) ?_ ?_
  · rw [up_k (by decide), hq, h7, e]
  · rw [hq]; omega
theorem pop_A (hb : b < 2) {r_1 : Int} : ∀ M, I0 b M0 M → A (sK (I0 b M0) (fun M' => I0 b M0 M' ∧ ∀ g : Nat, M' 81 42 = ((g + 1 : Nat) : Int) → ¬ (n32 (M' 108 g) < 7 ∧ n32 r_1 ≤ n32 (M' 108 g)))) (M_behindUnit_b29 r_1 M) := by
  intro M hI
  have hI0 := hI
  obtain ⟨h, hCo, hE⟩ := hI
  have h42 := hCo.2.2.2.2.1
  have h6 := hCo.2.2.2.2.2.1
  have hU := hCo.2.2.1
  unfold M_behindUnit_b29
  try dsimp only
  refine A_chk (fun hck => ?_)
  obtain ⟨g, rfl⟩ : ∃ g, h = g + 1 := ⟨h - 1, by omega⟩
  have eg : M 81 42 - 1 = (g : Int) := by omega
  rw [eg, tn_nat]
  refine A_bind (J := fun c : Bool => (c = true → n32 (M 108 g) < 7) ∧ (c = false → ¬ (n32 (M 108 g) < 7 ∧ n32 r_1 ≤ n32 (M 108 g)))) ?_ (fun c hc => ?_)
  · refine A_ite (fun q => A_ite (fun q2 => A_some ⟨fun _ => q, fun z => by cases z⟩) (fun q2 => A_some ⟨fun z => (by cases z), fun _ => fun z => q2 z.2⟩)) (fun q => A_some ⟨fun z => (by cases z), fun _ => fun z => q z.1⟩)
  · refine A_ite (fun hct => ?_) (fun hcf => A_some ⟨hI0, fun g' hg' => ?_⟩)
    · refine A_ltE (fun M_29 e29 => ?_)
      have f29 : M_29 81 42 = (g : Int) := by rw [e29, up_eq]
      have g29 : M_29 108 g = M 108 g := by rw [e29, up_c (by decide)]
      have k29 : M_29 81 41 = M 81 41 := by rw [e29, up_k (by decide)]
      rw [f29, tn_nat, g29, k29]
      refine A_chk (fun _ => ?_)
      refine A_bind (J := fun M' => Co b M0 M' g ∧ M' 81 40 = M 81 40 ∧ M' 90 b = M 90 b) ?_ ?_
      · refine A_ite (fun q4 => ?_) (fun q4 => ?_)
        · refine A_ltE (fun M_36 e36 => A_some ?_)
          subst e36 e29
          exact ⟨pop4 hCo (by unfold q47; rw [q4]; rfl), by rw [up_k (by decide), up_k (by decide)], by rw [up_c (by decide), up_c (by decide)]⟩
        · refine A_some ?_
          subst e29
          have := hc.1 hct
          exact ⟨pop0 hCo (by unfold q47; exact decide_eq_false (by omega)), by rw [up_k (by decide)], by rw [up_c (by decide)]⟩
      · rintro M_32 ⟨c1, c2, c3⟩
        try dsimp only
        refine A_chk (fun _ => ?_)
        refine A_bind (emit_A hb c1 (by rw [c2]; omega)) ?_
        rintro M_40 ⟨d1, d2, d3, d4⟩
        exact A_some ⟨g, d1, by rw [d3, d4, c2, c3]; omega⟩
    · obtain rfl : g' = g := by omega
      exact hc.2 (by cases c <;> first | rfl | exact absurd rfl hcf)
theorem behind_A (hb : b < 2) (hI : I0 b M0 M) (hpos : 1 ≤ M 81 42) : A (IE b M0) (M_behindUnit M) := by
  unfold M_behindUnit
  refine A_bind rank_A (fun r_1 hr => ?_)
  refine A_jn (J := I0 b M0) (fun M_2 h2 => ?_) (fun j_3 hj => ?_)
  · refine A_bind (A_it (pop_A hb) h2) ?_
    rintro M_21 ⟨⟨h, hCo, hE⟩, htop⟩
    have h42 := hCo.2.2.2.2.1
    have h8 := hCo.2.2.2.2.2.2.2
    try dsimp only
    refine A_ite (fun hp => ?_) (fun hz => ?_)
    · refine A_bT (fun v_41 => ?_)
      refine A_bind (push_A hCo (by rcases hr with rfl | rfl | rfl | rfl | rfl | rfl <;> decide)) ?_
      rintro M_49 ⟨c1, c2, c3, c4⟩
      try dsimp only
      refine A_bE (fun M_50 e50 => ?_)
      have q50 := q_goOn e50
      refine A_some (Or.inr ⟨by dsimp only; decide, h + 1, Co_q c1 q50, by omega, ?_⟩)
      try dsimp only
      rw [q47_q q50, q50 _ _ (by omega), q50 _ _ (by omega), c2, c3, c4]
      omega
    · have hr0 : r_1 = 0 := by
        rcases hr with rfl | rfl | rfl | rfl | rfl | rfl
        · rfl
        all_goals exact absurd (by decide) hz
      subst hr0
      refine A_ltE (fun M_51 e51 => ?_)
      have f51 : M_51 81 42 = M_21 81 42 - 1 := by rw [e51, up_eq]
      refine A_chk (fun hck => ?_)
      obtain ⟨g, rfl⟩ : ∃ g, h = g + 1 := ⟨h - 1, by omega⟩
      have eg : M_21 81 42 - 1 = (g : Int) := by omega
      have g51 : M_51 108 g = M_21 108 g := by rw [e51, up_c (by decide)]
      have k51 : M_51 81 41 = M_21 81 41 := by rw [e51, up_k (by decide)]
      rw [f51, eg, tn_nat, g51, k51]
      rw [eg] at e51
      refine A_bind (J := I0 b M0) ?_ (fun M_54 h54 => A_some (Or.inl ⟨by dsimp only; decide, h54⟩))
      refine A_ite (fun q7 => ?_) (fun q7 => ?_)
      · refine A_ltE (fun M_58 e58 => ?_)
        refine A_bT (fun r_59 => ?_)
        refine A_bE (fun M_60 e60 => A_some (I0_q ?_ (q_must e60)))
        subst e58 e51
        refine ⟨g, pop4 hCo (by unfold q47; rw [q7]; rfl), ?_⟩
        rw [up_k (by decide), up_k (by decide), up_c (by decide), up_c (by decide)]
        omega
      · refine A_some ?_
        subst e51
        have ht := htop g h42
        have z0 : n32 0 = 0 := by decide
        rw [z0] at ht
        refine ⟨g, pop0 hCo (by unfold q47; exact decide_eq_false (by omega)), ?_⟩
        rw [up_k (by decide), up_c (by decide)]
        omega
  · refine A_bT (fun c => A_ite (fun _ => A_bE (fun M_13 e => A_some (Or.inr ⟨by dsimp only; decide, I1_q ?_ (q_misp e)⟩))) (fun _ => hj _ hI))
    obtain ⟨h, hCo, hE⟩ := hI
    have h42 := hCo.2.2.2.2.1
    exact ⟨h, hCo, by omega, by omega⟩
theorem e_A (hb : b < 2) (hBA : BA b M0 M) : A (BE b M0) (M_e M) := by
  obtain ⟨hF, hC, hU, hE1, hE2⟩ := hBA
  unfold M_e
  refine A_ltE (fun M_1 e1 => ?_)
  refine A_ltE (fun M_2 e2 => ?_)
  have f2 : ∀ c k, ¬ (c = 81 ∧ (k = 41 ∨ k = 42)) → M_2 c k = M c k := fun c k z => by rw [e2, e1, up_at, if_neg (by omega), up_at, if_neg (by omega)]
  have hCo : Co b M0 M_2 0 := by
    refine ⟨⟨by rw [f2 _ _ (by omega)]; exact hF.1, fun c k hp => ?_⟩, ?_, by rw [f2 _ _ (by omega)]; exact hU, by rw [f2 _ _ (by omega)]; exact hE1, by rw [e2, e1, up_k (by decide), up_eq]; rfl, by omega, by rw [e2, up_eq]; rfl, by show (0 : Nat) ≤ 7; omega⟩
    · unfold PB at hp
      rw [f2 _ _ (by omega)]
      exact hF.2 c k hp
    · unfold CT
      rw [f2 85 _ (by omega), f2 86 _ (by omega), f2 87 _ (by omega), f2 88 _ (by omega), f2 89 _ (by omega)]
      exact hC
  refine A_bind (push_A hCo (by decide)) ?_
  rintro M_3 ⟨c1, c2, c3, c4⟩
  try dsimp only
  have v40 := f2 81 40 (by omega)
  have v90 := f2 90 b (by omega)
  have hI1 : IE b M0 (1, M_3) := Or.inr ⟨by dsimp only; decide, 0 + 1, c1, by omega, by dsimp only; rw [c2, c3, c4, v40, v90]; omega⟩
  refine A_bind (A_it (I := IE b M0) (K := BE b M0) ?_ hI1) (fun M' h => A_some h)
  rintro ⟨l, M5⟩ hx
  unfold M_e_b20
  try dsimp only
  rw [good_eq, bind_some']
  refine A_ite (fun hgp => ?_) (fun hn => A_some ?_)
  · obtain ⟨hg, hpos⟩ := hgp
    refine A_bind (J := IE b M0) (A_ite (fun hl => ?_) (fun hl => ?_)) (fun x hx' => by obtain ⟨v, M'⟩ := x; exact A_some hx')
    · rcases hx with ⟨z, -⟩ | ⟨-, hx⟩
      · exact absurd z hl
      · exact A_ite (fun _ => A_bind (part_A hb hx) (fun x h => by obtain ⟨v, M'⟩ := x; exact A_some h)) (fun _ => A_bind (unit_A hb hx) (fun x h => by obtain ⟨v, M'⟩ := x; exact A_some h))
    · rcases hx with ⟨-, hx⟩ | ⟨z, -⟩
      · refine A_bind (behind_A hb hx ?_) (fun x h => by obtain ⟨v, M'⟩ := x; exact A_some h)
        obtain ⟨h, hCo', -⟩ := hx
        have h42 := hCo'.2.2.2.2.1
        have h6 := hCo'.2.2.2.2.2.1
        dsimp only at h42
        rw [h42, n32_nat (by omega)] at hpos
        rw [h42]
        exact hpos
      · exact absurd z hl
  · rcases hx with ⟨-, h, hCo', hE⟩ | ⟨-, h, hCo', h1, hE⟩
    · obtain ⟨k1, k2, k3, k4, k5, k6, k7, k8⟩ := hCo'
      exact ⟨k1, k2, ⟨k3, k4, by dsimp only at hE; omega⟩, fun _ => ⟨k3, k4, by dsimp only at hE; omega⟩⟩
    · obtain ⟨k1, k2, k3, k4, k5, k6, k7, k8⟩ := hCo'
      dsimp only at hE k3 k4 k5 k8
      refine ⟨k1, k2, ⟨k3, k4, by omega⟩, fun hg => absurd ⟨?_, ?_⟩ hn⟩
      · rw [if_pos hg]; decide
      · rw [k5, n32_nat (by omega)]; omega
end BANKF
