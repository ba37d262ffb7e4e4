/-! ===== the reference's lines with expressions, and all lines, keep to their bank ===== -/
section BANKM
variable {b : Nat} {M0 M M' : Mem}
theorem row_A (hb : b < 2) (h : BA b M0 M) (h86 : M 86 b < 12) : A (BE b M0) (M_readRow M) := by
  have h39 := h.1.1
  obtain ⟨m, hm⟩ : ∃ m : Nat, M 86 b = (m : Int) := ⟨(M 86 b).toNat, by have := h.2.1.2.1; omega⟩
  unfold M_readRow
  rw [h39, tn_nat, hm, show (12 : Int) * (b : Int) + (m : Int) = ((12 * b + m : Nat) : Int) by omega]
  refine A_chk (fun _ => A_ltE (fun l1_3 hl => A_bT (fun r_4 => A_bT (fun v_5 => A_bE (fun x e => ?_)))))
  subst hl
  obtain ⟨r_15, M_16⟩ := x
  have q16 := q_fresh e
  have h16 := BA_q h q16
  try dsimp only
  rw [tn_nat]
  refine A_chk (fun _ => A_ltE (fun M_19 e19 => ?_))
  have h19 : BA b M0 M_19 := by
    rw [e19]
    exact BA_up h16 (by unfold PB; omega) (by omega) (by omega)
  have v19 : M_19 86 b = (m : Int) := by rw [e19, up_c (by decide), q16 _ _ (by omega), hm]
  rw [h19.1.1, tn_nat, v19, show (17 : Int) * (b : Int) + (m : Int) = ((17 * b + m : Nat) : Int) by omega]
  refine A_chk (fun _ => A_ltE (fun l2 hl2 => ?_))
  subst hl2
  rw [tn_nat]
  refine A_chk (fun _ => A_ltE (fun M_25 e25 => ?_))
  have h25 : BA b M0 M_25 := by
    rw [e25]
    exact BA_up h19 (by unfold PB; omega) (by omega) (by omega)
  refine A_ltE (fun M_26 e26 => A_ltE (fun M_27 e27 => A_ltE (fun M_28 e28 => ?_)))
  have q28 : Qk M_25 M_28 := by
    rw [e28, e27, e26]
    exact Qk_tr (Qk_tr (Qk_up (by omega)) (Qk_up (by omega))) (Qk_up (by omega))
  have h28 := BA_q h25 q28
  refine A_bT (fun r_29 => A_bind (J := fun M' => BE b M0 M' ∧ M' 86 b = (m : Int)) ?_ ?_)
  · have v28 : M_28 86 b = (m : Int) := by rw [q28 _ _ (by omega), e25, up_c (by decide), v19]
    refine A_ite (fun _ => A_bE (fun M_34 e34 => A_some ⟨e_A hb h28 _ e34, ?_⟩)) (fun _ => A_some ⟨BA_BE h28, v28⟩)
    rw [fk_M_e e34 86 b rfl]
    exact v28
  · rintro M_30 ⟨h30, v30⟩
    try dsimp only
    refine A_ltE (fun M_36 e36 => ?_)
    have h36 : BE b M0 M_36 := by
      rw [e36]
      exact BE_up h30 (by unfold PB; omega) (by omega) (by omega)
    refine A_chk (fun _ => A_ltE (fun M_38 e38 => ?_))
    have h38 : BE b M0 M_38 := by
      rw [e38]
      exact BE_up h36 (by unfold PB; omega) (by omega) (by omega)
    have v38 : M_38 86 b = (m : Int) := by rw [e38, up_c (by decide), e36, up_c (by decide), v30]
    rw [h38.1.1, tn_nat, v38]
    refine A_chk (fun _ => A_ltE (fun M_41 e41 => A_some ?_))
    rw [e41]
    exact BE_cnt h38 (Or.inr (Or.inl ⟨rfl, by omega⟩)) (by omega)
theorem always_A (hb : b < 2) (h : BA b M0 M) (h87 : M 87 b < 4) : A (BE b M0) (M_readAlways M) := by
  have h39 := h.1.1
  obtain ⟨m, hm⟩ : ∃ m : Nat, M 87 b = (m : Int) := ⟨(M 87 b).toNat, by have := h.2.1.2.2.1; omega⟩
  unfold M_readAlways
  rw [h39, tn_nat, hm, show (17 : Int) * (b : Int) + 12 + (m : Int) = ((17 * b + 12 + m : Nat) : Int) by omega]
  refine A_chk (fun _ => A_ltE (fun l1_3 hl => ?_))
  subst hl
  rw [tn_nat]
  refine A_chk (fun _ => A_ltE (fun M_6 e6 => ?_))
  have h6 : BA b M0 M_6 := by
    rw [e6]
    exact BA_up h (by unfold PB; omega) (by omega) (by omega)
  refine A_ltE (fun M_7 e7 => A_ltE (fun M_8 e8 => ?_))
  have q8 : Qk M_6 M_8 := by
    rw [e8, e7]
    exact Qk_tr (Qk_up (by omega)) (Qk_up (by omega))
  have v8 : M_8 87 b = (m : Int) := by rw [q8 _ _ (by omega), e6, up_c (by decide), hm]
  refine A_bE (fun M_9 e9 => ?_)
  have h9 := e_A hb (BA_q h6 q8) _ e9
  have v9 : M_9 87 b = (m : Int) := (fk_M_e e9 87 b rfl).trans v8
  refine A_ltE (fun M_10 e10 => ?_)
  have h10 : BE b M0 M_10 := by
    rw [e10]
    exact BE_up h9 (by unfold PB; omega) (by omega) (by omega)
  have v10 : M_10 87 b = (m : Int) := by rw [e10, up_c (by decide), v9]
  rw [h10.1.1, tn_nat, v10]
  refine A_chk (fun _ => A_ltE (fun M_13 e13 => A_some ?_))
  rw [e13]
  exact BE_cnt h10 (Or.inr (Or.inr (Or.inl ⟨rfl, by omega⟩))) (by omega)
theorem law_A (hb : b < 2) (h : BA b M0 M) : A (BE b M0) (M_readLaw M) := by
  have h39 := h.1.1
  unfold M_readLaw
  rw [h39, show (17 : Int) * (b : Int) + 16 = ((17 * b + 16 : Nat) : Int) by omega]
  refine A_ltE (fun l1_3 hl => ?_)
  subst hl
  rw [tn_nat]
  refine A_chk (fun _ => A_ltE (fun M_4 e4 => ?_))
  have h4 : BA b M0 M_4 := by
    rw [e4]
    exact BA_up h (by unfold PB; omega) (by omega) (by omega)
  refine A_ltE (fun M_5 e5 => ?_)
  have q5 : Qk M_4 M_5 := by
    rw [e5]
    exact Qk_up (by omega)
  refine A_bind (e_A hb (BA_q h4 q5)) (fun M_6 h6 => ?_)
  try dsimp only
  refine A_ltE (fun M_7 e7 => ?_)
  have h7 : BE b M0 M_7 := by
    rw [e7]
    exact BE_up h6 (by unfold PB; omega) (by omega) (by omega)
  rw [h7.1.1, tn_nat]
  refine A_chk (fun _ => A_ltE (fun M_10 e10 => A_some ?_))
  rw [e10]
  exact BE_up h7 (by unfold PB; omega) (by omega) (by omega)
def NF (b : Nat) (M : Mem) (w : Int) : Prop := (n64 w = n64 123581014175598 → n32 (M 85 b) ≠ 8) ∧ (n64 w = n64 7499639 → n32 (M 86 b) ≠ 12) ∧ (n64 w = n64 107118487239027 → n32 (M 87 b) ≠ 4) ∧ (n64 w = n64 7629157 → n32 (M 88 b) ≠ 12) ∧ (n64 w = n64 2003399528 → n32 (M 89 b) ≠ 12)
theorem isW_A {w : Int} (h3 : n32 (M 81 8) = 3) : A (fun r : Int => ¬ n32 r = 0 ↔ n64 (M 81 10) = n64 w) (M_isWord w M) := by
  unfold M_isWord
  exact A_ite (fun q => A_some ⟨fun _ => q.2, fun _ => by decide⟩) (fun q => A_some ⟨fun z => absurd (by decide) z, fun z => absurd ⟨h3, z⟩ q⟩)
theorem full_A (h39 : M 81 39 = (b : Int)) (h3 : n32 (M 81 8) = 3) : A (fun r : Int => n32 r = 0 → NF b M (M 81 10)) (M_isFull M) := by
  unfold M_isFull
  rw [h39, tn_nat]
  have one : ∀ {P : Prop}, n32 1 = 0 → P := fun z => absurd z (by decide)
  refine A_bind (isW_A h3) (fun r0 i0 => A_ite (fun q => ?_) (fun _ => ?_))
  · have hw := i0.mp q
    refine A_chk (fun _ => A_ite (fun _ => A_some one) (fun _ => A_some (fun _ => ?_)))
    exact ⟨fun z => absurd (hw.symm.trans z) (by decide +kernel), fun z => absurd (hw.symm.trans z) (by decide +kernel), fun z => absurd (hw.symm.trans z) (by decide +kernel), fun z => absurd (hw.symm.trans z) (by decide +kernel), fun z => absurd (hw.symm.trans z) (by decide +kernel)⟩
  refine A_bind (isW_A h3) (fun r1 i1 => A_ite (fun q => ?_) (fun n1 => ?_))
  · have hw := i1.mp q
    refine A_chk (fun _ => A_ite (fun _ => A_some one) (fun hf => A_some (fun _ => ?_)))
    exact ⟨fun _ => hf, fun z => absurd (hw.symm.trans z) (by decide +kernel), fun z => absurd (hw.symm.trans z) (by decide +kernel), fun z => absurd (hw.symm.trans z) (by decide +kernel), fun z => absurd (hw.symm.trans z) (by decide +kernel)⟩
  refine A_bind (isW_A h3) (fun r2 i2 => A_ite (fun q => ?_) (fun n2 => ?_))
  · have hw := i2.mp q
    refine A_chk (fun _ => A_ite (fun _ => A_some one) (fun hf => A_some (fun _ => ?_)))
    exact ⟨fun z => absurd (hw.symm.trans z) (by decide +kernel), fun _ => hf, fun z => absurd (hw.symm.trans z) (by decide +kernel), fun z => absurd (hw.symm.trans z) (by decide +kernel), fun z => absurd (hw.symm.trans z) (by decide +kernel)⟩
  refine A_bind (isW_A h3) (fun r3 i3 => A_ite (fun q => ?_) (fun n3 => ?_))
  · have hw := i3.mp q
    refine A_chk (fun _ => A_ite (fun _ => A_some one) (fun hf => A_some (fun _ => ?_)))
    exact ⟨fun z => absurd (hw.symm.trans z) (by decide +kernel), fun z => absurd (hw.symm.trans z) (by decide +kernel), fun _ => hf, fun z => absurd (hw.symm.trans z) (by decide +kernel), fun z => absurd (hw.symm.trans z) (by decide +kernel)⟩
  refine A_bind (isW_A h3) (fun r4 i4 => A_ite (fun q => ?_) (fun n4 => ?_))
  · have hw := i4.mp q
    refine A_chk (fun _ => A_ite (fun _ => A_some one) (fun hf => A_some (fun _ => ?_)))
    exact ⟨fun z => absurd (hw.symm.trans z) (by decide +kernel), fun z => absurd (hw.symm.trans z) (by decide +kernel), fun z => absurd (hw.symm.trans z) (by decide +kernel), fun _ => hf, fun z => absurd (hw.symm.trans z) (by decide +kernel)⟩
  refine A_bind (isW_A h3) (fun r5 i5 => A_ite (fun q => ?_) (fun n5 => ?_))
  · have hw := i5.mp q
    refine A_chk (fun _ => A_ite (fun _ => A_some one) (fun hf => A_some (fun _ => ?_)))
    exact ⟨fun z => absurd (hw.symm.trans z) (by decide +kernel), fun z => absurd (hw.symm.trans z) (by decide +kernel), fun z => absurd (hw.symm.trans z) (by decide +kernel), fun z => absurd (hw.symm.trans z) (by decide +kernel), fun _ => hf⟩
  have fin : NF b M (M 81 10) := ⟨fun z => absurd (i1.mpr z) n1, fun z => absurd (i2.mpr z) n2, fun z => absurd (i3.mpr z) n3, fun z => absurd (i4.mpr z) n4, fun z => absurd (i5.mpr z) n5⟩
  exact fun r _ _ => fin
theorem step_L {p : Prop} {w c : Int} {M14 : Mem} {f : Mem → Option Mem} (hJ : BE b M0 M' ∧ (p → M' = M14)) (hp : n64 w = n64 c → p) (hf : n64 w = n64 c → A (BE b M0) (f M14)) : A (fun M'' => BE b M0 M'' ∧ ((p ∧ ¬ n64 w = n64 c) → M'' = M14)) (if n64 w = n64 c then (f M').bind fun M => some M else some M') :=
  A_ite (fun q => by rw [hJ.2 (hp q)]; exact A_bind (hf q) (fun M1 h1 => A_some ⟨h1, fun z => absurd q z.2⟩)) (fun q => A_some ⟨hJ.1, fun z => hJ.2 z.1⟩)
theorem lt_of_ne {x : Int} {k : Int} (h0 : 0 ≤ x ∧ x ≤ k) (hk : k ≤ 12) (q : n32 x ≠ k) : x < k := by
  rw [n32_of (by omega) (by omega)] at q
  omega
theorem line_A (hb : b < 2) (h : BA b M0 M) : A (BE b M0) (M_readLine M) := by
  have h39 := h.1.1
  unfold M_readLine
  refine A_ltE (fun w ew => ?_)
  refine A_bind (J := fun M' => Qk M M' ∧ (n32 (M' 81 4) = 0 → M' = M ∧ NF b M w)) ?_ ?_
  · refine A_bind (J := fun c : Bool => c = false → NF b M w) ?_ (fun c hc => A_ite (fun _ => A_bE (fun M_12 e => A_some ⟨q_misp e, fun g => absurd g (misp_bad e)⟩)) (fun q => A_some ⟨Qk_rfl, fun _ => ⟨rfl, hc (by cases c <;> first | rfl | exact absurd rfl q)⟩⟩))
    rw [ew]
    exact A_ite (fun h3 => A_bind (full_A h39 h3) (fun r hr => A_ite (fun _ => A_some (fun z => by cases z)) (fun q => A_some (fun _ => hr (Decidable.byContradiction q))))) (fun _ => A_some (fun z => by cases z))
  · rintro M_2 ⟨hq, hg⟩
    try dsimp only
    rw [good_eq, bind_some']
    refine A_ite (fun _ => A_some (BA_BE (BA_q h hq))) (fun hgd => ?_)
    obtain ⟨e2, n85, n86, n87, n88, n89⟩ := hg (good_of hgd)
    rw [e2]
    refine A_bE (fun M_14 e14 => ?_)
    have q14 := q_goOn e14
    have h14 := BA_q h q14
    obtain ⟨c85, c86, c87, c88, c89⟩ := h.2.1
    have d85 := q14 85 b (by omega)
    have d86 := q14 86 b (by omega)
    have d87 := q14 87 b (by omega)
    have d88 := q14 88 b (by omega)
    have d89 := q14 89 b (by omega)
    refine A_bind (step_L (f := M_readFact) (p := True) (M14 := M_14) ⟨BA_BE h14, fun _ => rfl⟩ (fun _ => trivial) (fun _ => A_mono (fact_A h14) (fun _ => BA_BE))) (fun M_15 J15 => ?_)
    try dsimp only
    refine A_bind (step_L (f := M_readPerson) J15 (fun q => ⟨trivial, fun z => absurd (q.symm.trans z) (by decide +kernel)⟩) (fun q => A_mono (person_A h14 (by rw [d85]; exact lt_of_ne c85 (by omega) (n85 q))) (fun _ => BA_BE))) (fun M_21 J21 => ?_)
    try dsimp only
    refine A_bind (step_L (f := M_readRow) J21 (fun q => ⟨⟨trivial, fun z => absurd (q.symm.trans z) (by decide +kernel)⟩, fun z => absurd (q.symm.trans z) (by decide +kernel)⟩) (fun q => row_A hb h14 (by rw [d86]; exact lt_of_ne c86 (by omega) (n86 q)))) (fun M_27 J27 => ?_)
    try dsimp only
    refine A_bind (step_L (f := M_readAlways) J27 (fun q => ⟨⟨⟨trivial, fun z => absurd (q.symm.trans z) (by decide +kernel)⟩, fun z => absurd (q.symm.trans z) (by decide +kernel)⟩, fun z => absurd (q.symm.trans z) (by decide +kernel)⟩) (fun q => always_A hb h14 (by rw [d87]; exact lt_of_ne c87 (by omega) (n87 q)))) (fun M_33 J33 => ?_)
    try dsimp only
    refine A_bind (step_L (f := M_readTie) J33 (fun q => ⟨⟨⟨⟨trivial, fun z => absurd (q.symm.trans z) (by decide +kernel)⟩, fun z => absurd (q.symm.trans z) (by decide +kernel)⟩, fun z => absurd (q.symm.trans z) (by decide +kernel)⟩, fun z => absurd (q.symm.trans z) (by decide +kernel)⟩) (fun q => A_mono (tie_A h14 (by rw [d88]; exact lt_of_ne c88 (by omega) (n88 q))) (fun _ => BA_BE))) (fun M_39 J39 => ?_)
    try dsimp only
    refine A_bind (step_L (f := M_readWish) J39 (fun q => ⟨⟨⟨⟨⟨trivial, fun z => absurd (q.symm.trans z) (by decide +kernel)⟩, fun z => absurd (q.symm.trans z) (by decide +kernel)⟩, fun z => absurd (q.symm.trans z) (by decide +kernel)⟩, fun z => absurd (q.symm.trans z) (by decide +kernel)⟩, fun z => absurd (q.symm.trans z) (by decide +kernel)⟩) (fun q => A_mono (wish_A h14 (by rw [d89]; exact lt_of_ne c89 (by omega) (n89 q))) (fun _ => BA_BE))) (fun M_45 J45 => ?_)
    try dsimp only
    refine A_bind (step_L (f := M_readLaw) J45 (fun q => ⟨⟨⟨⟨⟨⟨trivial, fun z => absurd (q.symm.trans z) (by decide +kernel)⟩, fun z => absurd (q.symm.trans z) (by decide +kernel)⟩, fun z => absurd (q.symm.trans z) (by decide +kernel)⟩, fun z => absurd (q.symm.trans z) (by decide +kernel)⟩, fun z => absurd (q.symm.trans z) (by decide +kernel)⟩, fun z => absurd (q.symm.trans z) (by decide +kernel)⟩) (fun q => law_A hb h14)) (fun M_51 J51 => ?_)
    try dsimp only
    refine A_bT (fun r_57 => A_bE (fun M_58 e => A_some ?_))
    obtain ⟨k1, k2, k3, k4⟩ := J51.1
    have q58 := q_must e
    exact ⟨BF_q k1 q58, CT_q k2 q58, SU_q k3 q58, fun g => SU_q (k4 (must_bad e g)) q58⟩
theorem town_A (hb : b < 2) : ∀ M, BE b M0 M → A (sK (BE b M0) (BE b M0)) (M_town_b74 M) := by
  intro M h
  unfold M_town_b74
  try dsimp only
  rw [good_eq, bind_some']
  refine A_ite (fun hg => ?_) (fun _ => A_some h)
  exact A_bind (line_A hb ⟨h.1, h.2.1, h.2.2.2 (good_of hg.1)⟩) (fun M' h' => A_some h')
theorem town_keep (hb : b < 2) {n : Nat} (h : BE b M0 M) (e : it M_town_b74 n M = some M') : BE b M0 M' :=
  A_it (I := BE b M0) (town_A hb) h M' e
end BANKM
