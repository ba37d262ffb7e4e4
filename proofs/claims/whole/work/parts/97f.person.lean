/-! ===== lines: persons ===== -/
section LPERSON
variable {n t b s : Nat} {C R : Mem}
theorem CostR_add (h : CostR t b C R) {C' R' : Mem} (hn : nP R' b = nP R b + 1) (h1 : ∀ k, k < nP R b → C' (t + 1) k = C (t + 1) k) (h2 : ∀ k, k < nP R b → R' 96 (8 * b + k) = R 96 (8 * b + k)) {v : Nat} (hv : v ≤ 99) (h3 : C' (t + 1) (nP R b) = (v : Int)) (h4 : R' 96 (8 * b + nP R b) = (v : Int)) : CostR t b C' R' := by
  intro p hp
  by_cases e : p = nP R b
  · subst e
    rw [h3, h4]
    omega
  · rw [h1 p (by omega), h2 p (by omega)]
    exact h p (by omega)
theorem KnoP_add (h : KnoP t b C R) {C' R' : Mem} (hn : nP R' b = nP R b + 1) (h1 : ∀ k, k < nP R b → C' (t + 2) k = C (t + 2) k) (h2 : ∀ k, k < nP R b → R' 97 (8 * b + k) = R 97 (8 * b + k)) {v : Nat} (hv : v < 256) (h3 : C' (t + 2) (nP R b) = (v : Int)) (h4 : R' 97 (8 * b + nP R b) = (v : Int)) : KnoP t b C' R' := by
  intro p hp
  by_cases e : p = nP R b
  · subst e
    rw [h3, h4]
    omega
  · rw [h1 p (by omega), h2 p (by omega)]
    exact h p (by omega)
theorem S3_97' {C0 R0 C' R' : Mem} {q : Nat} {P : Prop} {l : Nat} {v : Int} (h : S3 n q P C0 R0 C' R') (hv : R' 97 l = v) : S3 n q P C0 (up R0 97 l v) C' R' := by
  have := S3_up h (c := 97) (k := l) (v := v) (by decide)
  rw [up_self hv] at this
  exact this
theorem line_person (hB : TB n C R) (hI : PI t b s C R) {p : Nat} (g : Gd n 2 p C R) : ∃ C' R', N_readPerson C = some C' ∧ M_readLine R = some R' ∧ LRes n t b (p + 1) C' R' := by
  have hI0 := hI
  obtain ⟨⟨ht, hb, h27, h39⟩, hN, ⟨n1, n2, n3⟩, hCo, hTi, hWi, hKn, hCn, hRo, hAl, hLw⟩ := hI
  have ht2 : t ≤ 15 := by unfold isT at ht; omega
  have ht3 : 3 ≤ t := by unfold isT at ht; omega
  have hF := num_F hN
  have hP := num_P hN
  have hR := num_R hN
  have hTn := num_T hN
  have hWn := num_W hN
  have gT := g.2.2.2.2.2
  have hfull := full_eq gT hb h39 hLw.2.1
  rw [if_neg (by decide), if_pos rfl, hP.1, n32_nat (by omega)] at hfull
  have h8 : R 81 8 = 3 ∧ R 81 10 = 123581014175598 := by
    obtain ⟨-, hT⟩ := gT
    rcases hT with ⟨z, -⟩ | ⟨z, -⟩ | ⟨-, -, z3, z4⟩ | ⟨z, -⟩ | ⟨z, -⟩
    · omega
    · omega
    · exact ⟨z3, by rw [z4]; exact wconst.2.1⟩
    · omega
    · exact absurd z (by decide)
  have hon : OnT C R C R := ⟨fun _ _ _ => rfl, fun _ _ _ => rfl⟩
  have bk59 : ∀ M : Mem, M 40 4 = 24 → K_expect 59 M = some M := fun M h => bk_expect (w := 59) h (by decide) (by decide)
  have bk3 : ∀ M : Mem, M 40 4 = 24 → K_expect 3 M = some M := fun M h => bk_expect (w := 3) h (by decide) (by decide)
  unfold N_readPerson
  rw [h27, chk_pos (isTI_of rfl ht), lt1_eq, tn_nat, hP.2.1, n32_nat (by omega)]
  by_cases hfu : nP R b = 8
  · rw [decide_eq_true (by omega)] at hfull
    rw [if_neg (by omega), bind_some', begin_no g, bind_some', bk_sees failC_at.1, bind_some']
    dsimp only
    rw [if_neg nz0, bind_some', if_neg (by decide), bind_some', bk_take failC_at.1, bind_some']
    dsimp only
    rw [bk3 _ failC_at.1, bind_some', bk_small failC_at.1, bind_some']
    dsimp only
    rw [if_neg (show ¬ n32 (failC C 2 40 4) = 4 by rw [failC_at.1]; decide), bind_some']
    dsimp only
    rw [bk59 _ failC_at.1, bind_some', if_neg (show ¬ ¬ n32 (failC C 2 40 4) = 24 by rw [failC_at.1]; decide), line_no g (fun _ => hfull)]
    exact ⟨_, _, rfl, rfl, Or.inr (both_fail hB g (by decide) (by decide))⟩
  · rw [decide_eq_false (by omega)] at hfull
    obtain ⟨C1, R1, k1, k2, k3⟩ := pass_ok hB hon g
    rw [if_neg (by decide)] at k3
    obtain ⟨-, ⟨f, ef, vf, -⟩, -⟩ := hereF hI0 k3.1
    have nf : n32 f = f := by rcases vf with e | ⟨i, hi, e⟩ <;> rw [e] <;> first | rfl | exact n32_nat (by omega)
    obtain ⟨s1, Ca, Cb, x, C2, y, R2, u1, u2, u3, u4, u5, u6, u7⟩ := fresh_ok hB (v := b1 (decide (0 ≤ f))) (dup := decide (0 ≤ f)) k3 (fun _ _ => rfl)
    have hcls : ((if ¬ n32 s1 = 0 then chk (isTI (Ca 27 16)) (lt1 (Ca 27 16).toNat fun t_22 => (N_find 33 (Ca t_22 1) Ca).bind fun r_24 => if ¬ n32 r_24 = (-1) then some true else some false) else some false).bind fun c_20 => if c_20 = true then (K_fail 3 Ca).bind fun M_25 => some M_25 else some Ca) = some Cb := by
      rcases u2 with rfl | ⟨rfl, ecc, pp, gg⟩
      · rw [if_neg nz0, bind_some', if_neg (by decide), u3 rfl]
      · have ecc' := ecc.symm
        subst ecc'
        obtain ⟨-, ⟨f', w1, w2, w3⟩, -⟩ := foundF hI0 k3.1 gg.2.2.2.2.2
        rw [ef] at w2
        cases w2
        have e27 : C1 27 16 = (t : Int) := (k3.1.1 _ _ (by omega)).trans h27
        have u4 := u4 rfl
        rw [if_pos nz1, e27, chk_pos (isTI_of rfl ht), lt1_eq, tn_nat, k3.1.1 t _ (by omega), hP.2.1, w1, bind_some', nf]
        by_cases q : 0 ≤ f
        · rw [decide_eq_true q, if_pos rfl] at u4
          rw [if_pos (by omega), bind_some', if_pos rfl, u4]
          rfl
        · have hf1 : f = -1 := by rcases w3 with e | ⟨i, -, e⟩ <;> omega
          rw [decide_eq_false q, if_neg (by decide)] at u4
          rw [if_neg (by omega), bind_some', if_neg (by decide), u4]
    clear u2 vf u3 u4
    have hl16 : 8 * b + nP R b < 16 := by omega
    rw [if_pos (by omega), bind_some', begin_yes, k1, bind_some', u1, bind_some']
    dsimp only
    rw [hcls, bind_some', u5, bind_some']
    dsimp only
    rw [rl_Person h8.1 h8.2 hfull (gd_good g.2.1.1), k2, bind_some']
    have e85 : R1 85 b = (nP R b : Int) := (k3.1.2 _ _ (by omega)).trans hP.1
    have e39 : R1 81 39 = (b : Int) := (k3.1.2 _ _ (by omega)).trans h39
    have ev : (if 0 ≤ n32 f then some (1 : Int) else some 0) = some (b1 (decide (0 ≤ f))) := by
      rw [nf]
      by_cases q : 0 ≤ f
      · rw [if_pos q, decide_eq_true q]; rfl
      · rw [if_neg q, decide_eq_false q]; rfl
    unfold M_readPerson
    rw [e39, chk_pos (by omega), lt1_eq, tn_nat, e85, show 8 * (b : Int) + (nP R b : Int) = ((8 * b + nP R b : Nat) : Int) by omega, ef, bind_some', ev, bind_some', u6, bind_some']
    dsimp only
    rw [chk_pos (by omega), lt1_eq, tn_nat]
    have w6 := S3_up u7 (c := 94) (k := 8 * b + nP R b) (v := y) (by decide)
    have hB2 := TB_up hB (c := 94) (k := 8 * b + nP R b) (v := y) (by decide) (by decide)
    obtain ⟨C3, xs, C4, ys, R4, a1, a2, a3, a4⟩ := after_ok hB2 (j := 2) (by decide) w6
    rw [wconst.2.2.1] at a3
    rw [show ((2 + 1 : Nat) : Int) = 3 from rfl] at a1
    rw [a1, bind_some', a2, bind_some', a3, bind_some']
    dsimp only
    rw [lt1_eq, lt1_eq]
    have e39' : up (up R4 96 (8 * b + nP R b) ys) 97 (8 * b + nP R b) 0 81 39 = (b : Int) := by rw [up_c (by decide), up_c (by decide), a4.1.2 _ _ (by omega), up_c (by decide)]; exact h39
    have e85' : up (up R4 96 (8 * b + nP R b) ys) 97 (8 * b + nP R b) 0 85 b = (nP R b : Int) := by rw [up_c (by decide), up_c (by decide), a4.1.2 _ _ (by omega), up_c (by decide)]; exact hP.1
    rw [e39', chk_pos (by omega), lt1_eq, tn_nat, e85']
    have w7 := S3_up (S3_up (S3_up a4 (c := 96) (k := 8 * b + nP R b) (v := ys) (by decide)) (c := 97) (k := 8 * b + nP R b) (v := 0) (by decide)) (c := 85) (k := b) (v := (nP R b : Int) + 1) (by decide)
    generalize hRb : up (up (up (up R 94 (8 * b + nP R b) y) 96 (8 * b + nP R b) ys) 97 (8 * b + nP R b) 0) 85 b ((nP R b : Int) + 1) = Rb at w7
    generalize hR5 : up (up (up R4 96 (8 * b + nP R b) ys) 97 (8 * b + nP R b) 0) 85 b ((nP R b : Int) + 1) = R5 at w7 ⊢
    have hBb : TB n C Rb := by rw [← hRb]; exact TB_up (TB_up (TB_up hB2 (by decide) (by decide)) (by decide) (by decide)) (by decide) (by decide)
    have hHb : HF t b C Rb := by rw [← hRb]; exact HF_up (HF_up (HF_up (HF_up (HF_of hI0) (by decide) (by decide) (by decide)) (by decide) (by decide) (by decide)) (by decide) (by decide) (by decide)) (by decide) (by decide) (by decide)
    have r97 : R5 97 (8 * b + nP R b) = 0 := by rw [← hR5, up_c (by decide), up_eq]
    have rb97 : Rb 97 (8 * b + nP R b) = 0 := by rw [← hRb, up_c (by decide), up_eq]
    have hRbS : ∀ a k, ¬ (a = 94 ∧ k = 8 * b + nP R b) ∧ ¬ (a = 96 ∧ k = 8 * b + nP R b) ∧ ¬ (a = 97 ∧ k = 8 * b + nP R b) ∧ ¬ (a = 85 ∧ k = b) → Rb a k = R a k := fun a k z => by rw [← hRb, up_at, if_neg z.2.2.2, up_at, if_neg z.2.2.1, up_at, if_neg z.2.1, up_at, if_neg z.1]
    have rb94 : Rb 94 (8 * b + nP R b) = y := by rw [← hRb, up_c (by decide), up_c (by decide), up_c (by decide), up_eq]
    have rb96 : Rb 96 (8 * b + nP R b) = ys := by rw [← hRb, up_c (by decide), up_c (by decide), up_eq]
    have rb85 : Rb 85 b = ((nP R b + 1 : Nat) : Int) := by rw [← hRb, up_eq]; omega
    -- what one knows
    have hkn : ∃ xk C6 R6, (if n32 (C4 40 4) = 4 then (K_pass C4).bind fun M_36 => (N_readKnown M_36).bind fun x => match x with | (r_37, M_38) => some (r_37, M_38) else some ((0 : Int), C4)) = some (xk, C6) ∧ ((M_isGood R5).bind fun r_22 => (if ¬ n32 r_22 = 0 then (M_isWord 461414299507 R5).bind fun r_28 => if n32 r_28 = 0 then some true else some false else some true).bind fun c_27 => if c_27 = true then some R5 else (M_goOn R5).bind fun M_29 => (it (M_readPerson_b99 ((8 * b + nP R b : Nat) : Int)) FUEL (1, M_29)).bind fun M_38 => some M_38) = some R6 ∧ S3 n (p + 1) (((True ∧ ∃ m : Nat, m < 2 ^ 40 ∧ x = (m : Int) ∧ y = ((w256 m : Nat) : Int)) ∧ ∃ v : Nat, v ≤ 99 ∧ xs = (v : Int) ∧ ys = (v : Int)) ∧ ∃ k : Nat, k < 256 ∧ xk = (k : Int) ∧ R6 97 (8 * b + nP R b) = (k : Int)) C (up Rb 97 (8 * b + nP R b) (R6 97 (8 * b + nP R b))) C6 R6 := by
      have hself : S3 n (p + 1) ((True ∧ ∃ m : Nat, m < 2 ^ 40 ∧ x = (m : Int) ∧ y = ((w256 m : Nat) : Int)) ∧ ∃ v : Nat, v ≤ 99 ∧ xs = (v : Int) ∧ ys = (v : Int)) C (up Rb 97 (8 * b + nP R b) (R5 97 (8 * b + nP R b))) C4 R5 := S3_97' w7 rfl
      obtain ⟨on7, h7⟩ := w7
      rcases h7 with ⟨kd, p', hp', g', hPv⟩ | hfb
      · have gT' := g'.2.2.2.2.2
        have iw := isWord_tok gT' (j := 3) (by decide)
        rw [wconst.2.2.2.1] at iw
        rw [Tok_4 gT', gd_good g'.2.1.1, bind_some', if_pos nz1, iw, bind_some']
        by_cases e : kd = 3 + 1
        · subst e
          obtain ⟨C6, R6, m1, m2, m3⟩ := pass_ok hBb on7 g'
          rw [if_neg (by decide)] at m3
          obtain ⟨xk, C7, R7, m4, m5, m6⟩ := known_ok hBb hHb (l := 8 * b + nP R b) hl16 (q := p + 1) (by rw [m3.1.2 _ _ (fun z => absurd z.1 (by decide))]; exact rb97) (S3_97' (S3_mono m3 (Nat.le_succ_of_le hp') (fun z => z)) rfl)
          rw [if_pos (by decide), m1, bind_some', m4, bind_some', if_pos rfl, if_neg nz1, bind_some', if_neg (by decide), m2, bind_some', m5, bind_some']
          exact ⟨_, _, _, rfl, rfl, S3_mono m6 (Nat.le_refl _) (fun z => ⟨hPv, z⟩)⟩
        · rw [if_neg (by omega), if_neg e, if_pos (by decide), bind_some', if_pos rfl]
          exact ⟨_, _, _, rfl, rfl, S3_mono (by obtain ⟨z1, z2⟩ := hself; exact ⟨z1, Or.inl ⟨kd, p', hp', g', hPv⟩⟩) (Nat.le_refl _) (fun z => ⟨z, 0, by omega, rfl, r97⟩)⟩
      · have hfb2 := hfb
        obtain ⟨fv, fp, ⟨c1, c2, c3⟩, -, hf2 | ⟨-, hbad⟩⟩ := hfb
        · rw [c1, if_neg (by decide), fl_good hf2, bind_some', if_neg nz0, bind_some', if_pos rfl]
          exact ⟨_, _, _, rfl, rfl, hself.1, Or.inr hfb2⟩
        · rw [c1, if_neg (by decide), gd_good hbad.1, bind_some', if_pos nz1, isWord_bad hbad, bind_some', if_pos (by decide), bind_some', if_pos rfl]
          exact ⟨_, _, _, rfl, rfl, hself.1, Or.inr hfb2⟩
    obtain ⟨xk, C6, R6, m1, m2, m3⟩ := hkn
    rw [m1, bind_some', m2, bind_some']
    dsimp only
    have hBc := TB_up hBb (c := 97) (k := 8 * b + nP R b) (v := R6 97 (8 * b + nP R b)) (by decide) (by decide)
    generalize hkv : R6 97 (8 * b + nP R b) = kv at m3 hBc
    obtain ⟨r, C7, R7, x1, x2, x3, x4⟩ := must_sign hBc (w := 59) (by decide) m3
    rw [show ((59 : Nat) : Int) = 59 from rfl] at x1 x2
    rw [x2, bind_some', x1, bind_some', x3, bind_some']
    obtain ⟨⟨on1, on2⟩, ⟨kd, p', hp', g', ⟨⟨-, m, hm, rfl, rfl⟩, cv, hcv, rfl, rfl⟩, kk, hkk, rfl, rfl⟩ | hfb⟩ := x4
    · have hk := Tok_kd g'.2.2.2.2.2
      have e27 : C7 27 16 = (t : Int) := (on1 _ _ (by omega)).trans h27
      have et1 : C7 t 1 = (nP R b : Int) := (on1 _ _ (by omega)).trans hP.2.1
      have f27 : ∀ (M : Mem) c k v, c ≠ 27 → M 27 16 = (t : Int) → up M c k v 27 16 = (t : Int) := fun M c k v z h => by rw [up_c (Ne.symm z)]; exact h
      have ft1 : ∀ (M : Mem) c k v, c ≠ t → M t 1 = (nP R b : Int) → up M c k v t 1 = (nP R b : Int) := fun M c k v z h => by rw [up_c (Ne.symm z)]; exact h
      have q1 := f27 C7 33 (nP R b) (m : Int) (by decide) e27
      have q2 := ft1 C7 33 (nP R b) (m : Int) (by omega) et1
      have q3 := f27 _ (t + 1) (nP R b) (cv : Int) (by omega) q1
      have q4 := ft1 _ (t + 1) (nP R b) (cv : Int) (by omega) q2
      have q5 := f27 _ (t + 2) (nP R b) (kk : Int) (by omega) q3
      have q6 := ft1 _ (t + 2) (nP R b) (kk : Int) (by omega) q4
      rw [Tok_4 g'.2.2.2.2.2, if_pos (by omega), e27, chk_pos (isTI_of rfl ht), lt1_eq, tn_nat, et1, chk_pos (by omega), lt1_eq, tn_nat, q1, chk_pos (isTI_of rfl ht), lt1_eq, tn_nat, q2, chk_pos (by omega), lt1_eq, tn_nat, q3, chk_pos (isTI_of rfl ht), lt1_eq, tn_nat, q4, chk_pos (by omega), lt1_eq, tn_nat, q5, chk_pos (isTI_of rfl ht), lt1_eq, lt1_eq, tn_nat, q6]
      refine ⟨_, _, rfl, rfl, Or.inl ?_⟩
      generalize hC8 : up (up (up (up C7 33 (nP R b) (m : Int)) (t + 1) (nP R b) (cv : Int)) (t + 2) (nP R b) (kk : Int)) t 1 ((nP R b : Int) + 1) = C8
      have cS : ∀ a k, a ≠ 40 ∧ ¬ (a = 33 ∧ k = nP R b) ∧ ¬ (a = t + 1 ∧ k = nP R b) ∧ ¬ (a = t + 2 ∧ k = nP R b) ∧ ¬ (a = t ∧ k = 1) → C8 a k = C a k := fun a k z => by rw [← hC8, up_at, if_neg z.2.2.2.2, up_at, if_neg z.2.2.2.1, up_at, if_neg z.2.2.1, up_at, if_neg z.2.1]; exact on1 a k z.1
      have c40 : ∀ k, C8 40 k = C7 40 k := fun k => by rw [← hC8, up_c (by omega), up_c (by omega), up_c (by omega), up_c (by decide)]
      have e2 : ∀ k, C8 2 k = C7 2 k := fun k => by rw [← hC8, up_c (by omega), up_c (by omega), up_c (by omega), up_c (by decide)]
      have c33 : C8 33 (nP R b) = (m : Int) := by rw [← hC8, up_c (by omega), up_c (by omega), up_c (by omega), up_eq]
      have cc1 : C8 (t + 1) (nP R b) = (cv : Int) := by rw [← hC8, up_c (by omega), up_c (by omega), up_eq]
      have cc2 : C8 (t + 2) (nP R b) = (kk : Int) := by rw [← hC8, up_c (by omega), up_eq]
      have ct : C8 t 1 = ((nP R b + 1 : Nat) : Int) := by rw [← hC8, up_eq]; omega
      have rS : ∀ a k, ¬ (a = 81 ∧ 4 ≤ k ∧ k ≤ 10) ∧ ¬ (a = 94 ∧ k = 8 * b + nP R b) ∧ ¬ (a = 96 ∧ k = 8 * b + nP R b) ∧ ¬ (a = 97 ∧ k = 8 * b + nP R b) ∧ ¬ (a = 85 ∧ k = b) → R7 a k = R a k := fun a k z => by rw [on2 a k z.1, up_at, if_neg z.2.2.2.1]; exact hRbS a k z.2
      have r85 : R7 85 b = ((nP R b + 1 : Nat) : Int) := by rw [on2 _ _ (by omega), up_c (by decide)]; exact rb85
      have r94 : R7 94 (8 * b + nP R b) = ((w256 m : Nat) : Int) := by rw [on2 _ _ (by omega), up_c (by decide)]; exact rb94
      have r96 : R7 96 (8 * b + nP R b) = (cv : Int) := by rw [on2 _ _ (by omega), up_c (by decide)]; exact rb96
      have r97 : R7 97 (8 * b + nP R b) = (kk : Int) := by rw [on2 _ _ (by omega), up_eq]
      have eF : nF R7 b = nF R b := by unfold nF; rw [rS 84 _ (by omega)]
      have eP : nP R7 b = nP R b + 1 := by unfold nP; rw [r85]; rfl
      have eR : nR R7 b = nR R b := by unfold nR; rw [rS 86 _ (by omega)]
      have eTn : nT R7 b = nT R b := by unfold nT; rw [rS 88 _ (by omega)]
      have eWn : nW R7 b = nW R b := by unfold nW; rw [rS 89 _ (by omega)]
      refine ⟨s, kd, p', hp', ⟨⟨ht, hb, (cS _ _ (by omega)).trans h27, (rS _ _ (by omega)).trans h39⟩, ?_, ⟨?_, ?_, ?_⟩, ?_, ?_, ?_, ?_, ?_, ?_, ?_, ?_⟩, ?_, ?_⟩
      · obtain ⟨y1, y2, y3, y4, y5, y6⟩ := hN
        unfold NumR
        rw [cS t 0 (by omega), rS 84 _ (by omega), ct, r85, cS t 2 (by omega), rS 86 _ (by omega), cS t 3 (by omega), rS 88 _ (by omega), cS t 4 (by omega), rS 89 _ (by omega), cS t 5 (by omega), rS 90 _ (by omega)]
        exact ⟨y1, ⟨rfl, by omega, by omega⟩, y3, y4, y5, y6⟩
      · rw [eF]
        exact NmQ_keep n1 (fun i hi => cS _ _ (by omega)) (fun i hi => rS _ _ (by omega))
      · rw [eP]
        exact NmQ_add n2 (fun i hi => cS _ _ (by omega)) (fun i hi => rS _ _ (by omega)) ⟨m, hm, c33, r94⟩
      · rw [eR]
        exact NmQ_keep n3 (fun i hi => cS _ _ (by omega)) (fun i hi => rS _ _ (by omega))
      · exact CostR_add hCo eP (fun k hk => cS _ _ (by omega)) (fun k hk => rS _ _ (by omega)) hcv cc1 r96
      · exact TieQ_keep hTi hb hTn.2.2 eTn (by omega) (fun a k z => cS _ _ (by omega)) (fun k hk => ⟨rS _ _ (by omega), rS _ _ (by omega), rS _ _ (by omega)⟩)
      · exact WishQ_keep hWi hb hWn.2.2 eWn (fun k => cS _ _ (by omega)) (fun k hk => ⟨rS _ _ (by omega), rS _ _ (by omega), rS _ _ (by omega)⟩)
      · exact KnoP_add hKn eP (fun k hk => cS _ _ (by omega)) (fun k hk => rS _ _ (by omega)) hkk cc2 r97
      · exact ⟨hCn.1, (cS _ _ (by omega)).trans hCn.2.1, (rS _ _ (by omega)).trans hCn.2.2.1, by rw [rS 90 _ (by omega)]; exact hCn.2.2.2⟩
      · exact RowsQ_keep hRo (Nat.le_refl _) hb hR.2.2 eR (by omega) (by omega) (fun k hk => ⟨cS _ _ (by omega), cS _ _ (by omega), cS _ _ (by omega)⟩) (fun k hk => cS _ _ (by omega)) (fun k hk => ⟨rS _ _ (by omega), rS _ _ (by omega), rS _ _ (by omega)⟩) (fun k hk => ⟨rS _ _ (by omega), rS _ _ (by omega)⟩)
      · exact AlwQ_keep hAl (Nat.le_refl _) hb (by omega) (by omega) (by omega) (cS _ _ (by omega)) (rS _ _ (by omega)) (fun k hk => cS _ _ (by omega)) (fun k hk => ⟨cS _ _ (by omega), cS _ _ (by omega)⟩) (fun k hk => cS _ _ (by omega)) (fun k hk hk2 => ⟨rS _ _ (by omega), rS _ _ (by omega)⟩) (fun k hk => ⟨rS _ _ (by omega), rS _ _ (by omega)⟩)
      · exact LwQ_keep hLw (Nat.le_refl _) ⟨cS _ _ (by omega), cS _ _ (by omega), cS _ _ (by omega)⟩ (rS _ _ (by omega)) (fun k hk => cS _ _ (by omega)) ⟨rS _ _ (by omega), rS _ _ (by omega)⟩ (fun k hk => ⟨rS _ _ (by omega), rS _ _ (by omega)⟩)
      · obtain ⟨y1, y2, y3, y4, y5⟩ := hB
        exact ⟨y1, fun i hi => by rw [cS _ _ (by omega)]; exact y2 i hi, (rS _ _ (by omega)).trans y3, fun i hi => by rw [rS _ _ (by omega), cS _ _ (by omega)]; exact y4 i hi, fun i hi => by rw [cS _ _ (by omega)]; exact y5 i hi⟩
      · unfold Gd Tok at g' ⊢
        simp only [c40, e2]
        exact g'
    · obtain ⟨fv, fp, ⟨z1, z2, z3⟩, z4⟩ := hfb
      rw [z1, if_neg (by decide)]
      exact ⟨_, _, rfl, rfl, Or.inr ⟨fv, fp, ⟨z1, z2, z3⟩, z4⟩⟩
end LPERSON
