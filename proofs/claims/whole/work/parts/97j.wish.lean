/-! ===== lines: wishes ===== -/
section LWISH
variable {n t b s : Nat} {C R : Mem}
def wpB (b : Nat) (M : Mem) (r5 r7 : Int) (k : Nat) : Bool := decide (0 ≤ n32 r7 ∧ n32 (M 101 (12 * b + k)) = n32 r5 ∧ n32 (M 102 (12 * b + k)) = n32 r7)
theorem wish_flt {l1 l4 r5 r7 : Int} {M : Mem} {f p : Int} (h : Flt M f p) : M_readWish_b41 l1 r5 r7 (l4, M) = some (.inr M) := by
  unfold M_readWish_b41
  dsimp only
  by_cases q : n32 l4 < n32 l1
  · rw [if_pos q, fl_good h, bind_some', if_neg nz0, bind_some', if_neg (by decide)]
  · rw [if_neg q, bind_some', if_neg (by decide)]
theorem wish_loop {M : Mem} {cnt0 p : Nat} (hb : b < 2) (hc : cnt0 ≤ 12) (hg : M 81 4 = 0) (h6 : M 81 6 = (p : Int)) (r5 r7 : Int) : it (M_readWish_b41 ((12 * b + cnt0 : Nat) : Int) r5 r7) FUEL (((12 * b : Nat) : Int), M) = some (if anyB (wpB b M r5 r7) cnt0 = true then up (up M 81 4 3) 81 5 (p : Int) else M) := by
  have key : Z (it (M_readWish_b41 ((12 * b + cnt0 : Nat) : Int) r5 r7) FUEL (((12 * b : Nat) : Int), M)) (fun x => x = if anyB (wpB b M r5 r7) cnt0 = true then up (up M 81 4 3) 81 5 (p : Int) else M) := by
    refine it_Z (fun k st => st.1 = ((12 * b + k : Nat) : Int) ∧ ((st.2 = M ∧ ∀ l, l < k → wpB b M r5 r7 l = false) ∨ (st.2 = up (up M 81 4 3) 81 5 (p : Int) ∧ anyB (wpB b M r5 r7) cnt0 = true))) cnt0 (by unfold FUEL; omega) ⟨rfl, Or.inl ⟨rfl, fun l hl => by omega⟩⟩ ?_ ?_
    · rintro k ⟨l4, M1⟩ hk ⟨el, ⟨e1, hn⟩ | ⟨e1, ha⟩⟩
      · dsimp only at el e1
        subst e1
        subst el
        unfold M_readWish_b41
        dsimp only
        rw [n32_nat (by omega), n32_nat (by omega), if_pos (by omega), gd_good hg, bind_some', if_pos nz1, bind_some', if_pos rfl, tn_nat]
        have e : (if 0 ≤ n32 r7 then chk (0 ≤ ((12 * b + k : Nat) : Int) ∧ ((12 * b + k : Nat) : Int) < 24) (if n32 (M1 101 (12 * b + k)) = n32 r5 then (if n32 (M1 102 (12 * b + k)) = n32 r7 then some true else some false) else some false) else some false) = some (wpB b M1 r5 r7 k) := by
          unfold wpB
          rw [chk_pos (by omega)]
          by_cases q1 : 0 ≤ n32 r7 <;> by_cases q2 : n32 (M1 101 (12 * b + k)) = n32 r5 <;> by_cases q3 : n32 (M1 102 (12 * b + k)) = n32 r7 <;> simp [q1, q2, q3]
        rw [e, bind_some']
        cases hw : wpB b M1 r5 r7 k with
        | true =>
          rw [if_pos rfl, gd_fails hg, h6, bind_some', bind_some', lt1_eq]
          exact Z_of (Or.inl ⟨_, rfl, rfl, Or.inr ⟨rfl, anyB_iff.mpr ⟨k, hk, hw⟩⟩⟩)
        | false =>
          rw [if_neg (by decide), bind_some', lt1_eq]
          refine Z_of (Or.inl ⟨_, rfl, rfl, Or.inl ⟨rfl, fun l hl => ?_⟩⟩)
          by_cases e : l = k
          · subst e; exact hw
          · exact hn l (by omega)
      · dsimp only at el e1
        subst e1
        rw [wish_flt (up45_flt (by decide) (by decide))]
        exact Z_of (Or.inr ⟨_, rfl, by rw [if_pos ha]⟩)
    · rintro ⟨l4, M1⟩ ⟨el, ⟨e1, hn⟩ | ⟨e1, ha⟩⟩
      · dsimp only at el e1
        subst e1
        subst el
        unfold M_readWish_b41
        dsimp only
        rw [if_neg (by omega), bind_some', if_neg (by decide)]
        exact Z_of ⟨_, rfl, by rw [anyB_no.mpr hn, if_neg (by decide)]⟩
      · dsimp only at el e1
        subst e1
        rw [wish_flt (up45_flt (by decide) (by decide))]
        exact Z_of ⟨_, rfl, by rw [if_pos ha]⟩
  obtain ⟨x, e, hx⟩ := key
  rw [e, hx]
def noWish (b : Nat) (R : Mem) (i j : Nat) : Prop := ∀ k, k < nW R b → ¬ (R 101 (12 * b + k) = (i : Int) ∧ R 102 (12 * b + k) = (j : Int))
def clsWish (t : Nat) (x : Int) (Ca : Mem) (v : Int) : Option Mem := if n32 v = (-1) then (K_fail 5 Ca).bind fun M_25 => some M_25 else ((if ¬ n32 x = (-1) then chk (isTI (Ca 27 16)) (lt1 (Ca 27 16).toNat fun t_32 => chk (0 ≤ ((x * 12) + v) ∧ ((x * 12) + v) < 96) (if ¬ n32 (Ca (t_32 + 7) (Int.toNat ((x * 12) + v))) = (-1) then some true else some false)) else some false).bind fun c_30 => if c_30 = true then (K_fail 3 Ca).bind fun M_36 => some M_36 else some Ca)
theorem wish2 (hB : TB n C R) (hI : PI t b s C R) {q : Nat} {P : Prop} {x y : Int} {C1 R1 : Mem} (h : S3 n q (P ∧ ∃ i : Nat, i < nP R b ∧ x = (i : Int) ∧ y = (i : Int)) C R C1 R1) : ∃ rs z Ca Cb Cc r7 M17 r40 R2, N_seesName C1 = some (rs, Ca) ∧ (if ¬ n32 rs = 0 then (N_findRow Ca).bind fun r_19 => some r_19 else some (-1 : Int)) = some z ∧ clsWish t x Ca z = some Cb ∧ K_pass Cb = some Cc ∧ M_rowHere R1 = some r7 ∧ it (M_readWish_b41 ((12 * b + nW R b : Nat) : Int) y r7) FUEL (((12 * b : Nat) : Int), R1) = some M17 ∧ M_told r7 (up M17 101 (12 * b + nW R b) y) = some (r40, R2) ∧ S3 n q (∃ i j : Nat, i < nP R b ∧ j < nR R b ∧ x = (i : Int) ∧ y = (i : Int) ∧ z = (j : Int) ∧ r40 = (j : Int) ∧ noWish b R i j) C (up R 101 (12 * b + nW R b) y) Cc R2 := by
  obtain ⟨⟨ht, hb, h27, h39⟩, hN, -, -, -, hWi, -⟩ := id hI
  have hI' := HN_of hI
  have ht2 : t ≤ 15 := by unfold isT at ht; omega
  have hP8 := (num_P hN).2.2
  have hR12 := (num_R hN).2.2
  have hW12 := (num_W hN).2.2
  obtain ⟨hon, hst⟩ := h
  have upon : ∀ {Cx Rx : Mem}, OnT C R Cx Rx → OnT C (up R 101 (12 * b + nW R b) y) Cx (up Rx 101 (12 * b + nW R b) y) := fun h => ⟨h.1, fun c k z => by
    by_cases z2 : c = 101 ∧ k = 12 * b + nW R b
    · rw [up_at, if_pos z2, up_at, if_pos z2]
    · rw [up_at, if_neg z2, up_at, if_neg z2]; exact h.2 c k z⟩
  have up81 : ∀ (Rx : Mem) k, up Rx 101 (12 * b + nW R b) y 81 k = Rx 81 k := fun Rx k => up_c (by decide)
  have fin5 : ∀ Ca : Mem, clsWish t x Ca (-1) = K_fail 5 Ca := fun Ca => by
    unfold clsWish
    rw [if_pos (by decide)]
    cases K_fail 5 Ca <;> rfl
  rcases hst with ⟨kd, p, hq, g, hP, i, hi, rfl, rfl⟩ | ⟨f, p, ⟨c1, c2, c3⟩, ⟨q2, q3, q4⟩, hf⟩
  · have gup : Gd n kd p C1 (up R1 101 (12 * b + nW R b) (i : Int)) := by
      unfold Gd Tok at g ⊢
      simp only [up81]
      exact g
    have hB' := TB_up hB (c := 101) (k := 12 * b + nW R b) (v := (i : Int)) (by decide) (by decide)
    have ni : n32 (i : Int) = (i : Int) := n32_nat (by omega)
    have gT := g.2.2.2.2.2
    by_cases e : kd = 21
    · subst e
      obtain ⟨-, -, r7, w1, w2, w3⟩ := foundN hI' hon gT
      have eL := fun r => wish_loop (b := b) (M := R1) (cnt0 := nW R b) (p := p) hb hW12 g.2.1.1 g.2.2.2.1 (i : Int) r
      rcases w3 with rfl | ⟨j, hj, rfl⟩
      · have e0 := eL (-1)
        have hno : anyB (wpB b R1 (i : Int) (-1)) (nW R b) = false := anyB_no.mpr (fun k hk => by unfold wpB; rw [decide_eq_false_iff_not]; rintro ⟨z, -⟩; exact absurd z (by decide))
        rw [hno, if_neg (by decide)] at e0
        exact ⟨_, _, _, _, _, _, _, _, _, by rw [sees_gd g, if_pos rfl], by rw [if_pos nz1, w1]; rfl, by rw [fin5, gd_failC g], bk_pass failC_at.1, w2, e0, told_m1 gup, up45_on (failC_on (upon hon) _) _ _, Or.inr (both_fail hB' gup (by decide) (by decide))⟩
      · have nj : n32 (j : Int) = (j : Int) := n32_nat (by omega)
        have e0 := eL (j : Int)
        have e27 : C1 27 16 = (t : Int) := (hon.1 _ _ (by omega)).trans h27
        obtain ⟨v1, v2⟩ := hWi.2 i j (by omega) (by omega)
        have ew : C1 (t + 7) (12 * i + j) = C (t + 7) (12 * i + j) := hon.1 _ _ (by omega)
        have hcls : ∀ (v : Int), C (t + 7) (12 * i + j) = v → n32 v = v → clsWish t (i : Int) C1 (j : Int) = (if v = -1 then some C1 else K_fail 3 C1) := fun v hv hn => by
          unfold clsWish
          rw [nj, ni, if_neg (by omega), if_pos (by omega), e27, chk_pos (isTI_of rfl ht), lt1_eq, tn_nat, chk_pos (by omega), show Int.toNat ((i : Int) * 12 + (j : Int)) = 12 * i + j by omega, ew, hv, hn]
          by_cases e : v = -1
          · rw [if_neg (not_not_intro e), bind_some', if_neg (by decide), if_pos e]
          · rw [if_pos e, bind_some', if_pos rfl, if_neg e]
            cases K_fail 3 C1 <;> rfl
        have hpk : ∀ k, k < nW R b → wpB b R1 (i : Int) (j : Int) k = decide (R 101 (12 * b + k) = (i : Int) ∧ R 102 (12 * b + k) = (j : Int)) := fun k hk => by
          obtain ⟨z1, z2, z3, z4, z5, z6⟩ := hWi.1 k hk
          unfold wpB
          rw [hon.2 101 _ (by omega), hon.2 102 _ (by omega), n32_of (a := R 101 (12 * b + k)) (by omega) (by omega), n32_of (a := R 102 (12 * b + k)) (by omega) (by omega), ni, nj, decide_eq_decide]
          exact ⟨fun z => z.2, fun z => ⟨by omega, z⟩⟩
        cases hd : anyB (wpB b R1 (i : Int) (j : Int)) (nW R b) with
        | true =>
          rw [hd, if_pos rfl] at e0
          obtain ⟨k, hk, hpk'⟩ := anyB_iff.mp hd
          rw [hpk k hk, decide_eq_true_eq] at hpk'
          obtain ⟨z1, z2, z3, z4, z5, z6⟩ := hWi.1 k hk
          have hc := hcls _ (v1 k hk hpk'.1 hpk'.2) (n32_of (by omega) (by omega))
          rw [if_neg (by omega), gd_failC g] at hc
          refine ⟨_, _, _, _, _, _, _, _, _, by rw [sees_gd g, if_pos rfl], by rw [if_pos nz1, w1]; rfl, hc, bk_pass failC_at.1, w2, e0, told_fl (f := 3) (p := (p : Int)) ?_ _, upon (up45_on (failC_on hon 3) 3 (p : Int)), Or.inr ?_⟩
          · unfold Flt
            rw [up81, up81]
            exact up45_flt (by decide) (by decide)
          · obtain ⟨fv, fp, y1, y2, y3⟩ := both_fail hB g (f := 3) (by decide) (by decide)
            refine ⟨fv, fp, y1, ?_⟩
            unfold FBr Flt BadT
            simp only [up81]
            exact ⟨y2, y3⟩
        | false =>
          rw [hd, if_neg (show ¬ (false = true) by decide)] at e0
          have hno : noWish b R i j := fun k hk => by
            have := anyB_no.mp hd k hk
            rw [hpk k hk, decide_eq_false_iff_not] at this
            exact this
          have hc := hcls _ (v2 (fun k hk => hno k hk)) (by decide)
          rw [if_pos rfl] at hc
          obtain ⟨C', R', k1, k2, k3⟩ := pass_ok hB' (upon hon) gup
          exact ⟨_, _, _, _, _, _, _, _, _, by rw [sees_gd g, if_pos rfl], by rw [if_pos nz1, w1]; rfl, hc, k1, w2, e0, told_i gup (by omega) k2, S3_mono k3 (by rw [if_neg (by decide)]; omega) (fun _ => ⟨i, j, hi, hj, rfl, rfl, rfl, rfl, hno⟩)⟩
    · have h8 : n32 (R1 81 8) ≠ 2 := fun z => e ((Tok_2 gT).mp z)
      obtain ⟨-, -, r7, w1, -, w3⟩ := hereN hI' hon
      have hr7 : r7 = -1 := w3 h8
      subst hr7
      have e0 := wish_loop (b := b) (M := R1) (cnt0 := nW R b) (p := p) hb hW12 g.2.1.1 g.2.2.2.1 (i : Int) (-1)
      have hno : anyB (wpB b R1 (i : Int) (-1)) (nW R b) = false := anyB_no.mpr (fun k hk => by unfold wpB; rw [decide_eq_false_iff_not]; rintro ⟨z, -⟩; exact absurd z (by decide))
      rw [hno, if_neg (by decide)] at e0
      obtain ⟨yy, k1⟩ := told_no gup e (w := -1)
      exact ⟨_, _, _, _, _, _, _, _, _, by rw [sees_gd g, if_neg e], by rw [if_neg nz0], by rw [fin5, bk_fail failC_at.1], bk_pass failC_at.1, w1, e0, k1, up45_on (failC_on (upon hon) _) _ _, Or.inr (both_fail hB' gup (by decide) (by decide))⟩
  · obtain ⟨-, -, r7, w1, -, w3⟩ := hereN hI' hon
    have fb98 : FB C1 (up R1 101 (12 * b + nW R b) y) := by
      refine ⟨f, p, ⟨c1, c2, c3⟩, ?_⟩
      unfold FBr Flt BadT
      simp only [up81]
      exact ⟨⟨q2, q3, q4⟩, hf⟩
    rcases hf with hf | ⟨rfl, hbad⟩
    · have e0 : it (M_readWish_b41 ((12 * b + nW R b : Nat) : Int) y r7) FUEL (((12 * b : Nat) : Int), R1) = some R1 := it_for (fun _ => (((12 * b : Nat) : Int), R1)) 0 (by unfold FUEL; omega) rfl (fun i hi => by omega) (wish_flt hf)
      refine ⟨_, _, _, _, _, _, _, _, _, bk_sees c1, by rw [if_neg nz0], by rw [fin5, bk_fail c1], bk_pass c1, w1, e0, told_fl (f := f) (p := p) ?_ _, upon hon, Or.inr fb98⟩
      unfold Flt at hf ⊢
      rw [up81, up81]
      exact hf
    · have hr7 : r7 = -1 := w3 (by rw [hbad.2.1]; decide)
      subst hr7
      have e0 := wish_loop (b := b) (M := R1) (cnt0 := nW R b) (p := q2) hb hW12 hbad.1 q4 y (-1)
      have hno : anyB (wpB b R1 y (-1)) (nW R b) = false := anyB_no.mpr (fun k hk => by unfold wpB; rw [decide_eq_false_iff_not]; rintro ⟨z, -⟩; exact absurd z (by decide))
      rw [hno, if_neg (by decide)] at e0
      have hbup : BadT (up R1 101 (12 * b + nW R b) y) p := by
        unfold BadT at hbad ⊢
        simp only [up81]
        exact hbad
      obtain ⟨yy, k1⟩ := told_bad hbup (w := -1)
      exact ⟨_, _, _, _, _, _, _, _, _, bk_sees c1, by rw [if_neg nz0], by rw [fin5, bk_fail c1], bk_pass c1, w1, e0, k1, up45_on (upon hon) _ _, Or.inr ⟨1, p, ⟨c1, c2, c3⟩, ⟨q2, q3, by rw [up45_6, up81]; exact q4⟩, Or.inl (up45_flt (by decide) (by decide))⟩⟩
theorem WishQ_add (h : WishQ t b C R) {C' R' : Mem} (hn : nW R' b = nW R b + 1) {i j v : Nat} (hi : i < 8) (hj : j < 12) (hno : noWish b R i j) (hv : v ≤ 99) (h7 : ∀ k, k ≠ 12 * i + j → C' (t + 7) k = C (t + 7) k) (h7n : C' (t + 7) (12 * i + j) = (v : Int)) (h98 : ∀ k, k < nW R b → R' 101 (12 * b + k) = R 101 (12 * b + k) ∧ R' 102 (12 * b + k) = R 102 (12 * b + k) ∧ R' 103 (12 * b + k) = R 103 (12 * b + k)) (n98 : R' 101 (12 * b + nW R b) = (i : Int) ∧ R' 102 (12 * b + nW R b) = (j : Int) ∧ R' 103 (12 * b + nW R b) = (v : Int)) : WishQ t b C' R' := by
  obtain ⟨q1, q2⟩ := h
  refine ⟨fun k hk => ?_, fun p r hp hr => ?_⟩
  · by_cases e : k = nW R b
    · subst e
      rw [n98.1, n98.2.1, n98.2.2]
      omega
    · obtain ⟨y1, y2, y3⟩ := h98 k (by omega)
      rw [y1, y2, y3]
      exact q1 k (by omega)
  · obtain ⟨a1, a2⟩ := q2 p r hp hr
    by_cases epr : p = i ∧ r = j
    · obtain ⟨rfl, rfl⟩ := epr
      refine ⟨fun k hk z1 z2 => ?_, fun hh => ?_⟩
      · by_cases e : k = nW R b
        · subst e
          rw [h7n, n98.2.2]
        · obtain ⟨y1, y2, y3⟩ := h98 k (by omega)
          rw [y1] at z1
          rw [y2] at z2
          exact absurd ⟨z1, z2⟩ (hno k (by omega))
      · exact absurd ⟨n98.1, n98.2.1⟩ (hh (nW R b) (by omega))
    · have hne : 12 * p + r ≠ 12 * i + j := by omega
      rw [h7 _ hne]
      refine ⟨fun k hk z1 z2 => ?_, fun hh => a2 (fun k hk z => ?_)⟩
      · by_cases e : k = nW R b
        · subst e
          rw [n98.1] at z1
          rw [n98.2.1] at z2
          exact absurd ⟨by omega, by omega⟩ epr
        · obtain ⟨y1, y2, y3⟩ := h98 k (by omega)
          rw [y1] at z1
          rw [y2] at z2
          rw [y3]
          exact a1 k (by omega) z1 z2
      · obtain ⟨y1, y2, y3⟩ := h98 k hk
        exact hh k (by omega) (by rw [y1, y2]; exact z)
theorem line_wish (hB : TB n C R) (hI : PI t b s C R) {p : Nat} (g : Gd n 9 p C R) : ∃ C' R', N_readWish C = some C' ∧ M_readLine R = some R' ∧ LRes n t b (p + 1) C' R' := by
  have hI0 := hI
  obtain ⟨⟨ht, hb, h27, h39⟩, hN, ⟨n1, n2, n3⟩, hCo, hTi, hWi, hKn, hCn, hRo, hAl, hLw⟩ := hI
  have ht2 : t ≤ 15 := by unfold isT at ht; omega
  have ht3 : 3 ≤ t := by unfold isT at ht; omega
  have hF := num_F hN
  have hP := num_P hN
  have hR := num_R hN
  have hTn := num_T hN
  have hWn := num_W hN
  have gT := g.2.2.2.2.2
  have hfull := full_eq gT hb h39 hLw.2.1
  rw [if_neg (by decide), if_neg (by decide), if_neg (by decide), if_neg (by decide), if_neg (by decide), if_pos rfl, hWn.1, n32_nat (by omega)] at hfull
  have h8 : R 81 8 = 3 ∧ R 81 10 = 2003399528 := by
    obtain ⟨-, hT⟩ := gT
    rcases hT with ⟨z, -⟩ | ⟨z, -⟩ | ⟨-, -, z3, z4⟩ | ⟨z, -⟩ | ⟨z, -⟩
    · omega
    · omega
    · exact ⟨z3, by rw [z4]; exact wconst.2.2.2.2.2.2.2.2.1⟩
    · omega
    · exact absurd z (by decide)
  have hon : OnT C R C R := ⟨fun _ _ _ => rfl, fun _ _ _ => rfl⟩
  have bk59 : ∀ M : Mem, M 40 4 = 24 → K_expect 59 M = some M := fun M h => bk_expect (w := 59) h (by decide) (by decide)
  have bk10 : ∀ M : Mem, M 40 4 = 24 → K_expect 10 M = some M := fun M h => bk_expect (w := 10) h (by decide) (by decide)
  unfold N_readWish
  rw [h27, chk_pos (isTI_of rfl ht), lt1_eq, tn_nat, hWn.2.1, n32_nat (by omega)]
  by_cases hfu : nW R b = 12
  · rw [decide_eq_true (by omega)] at hfull
    rw [if_neg (by omega), bind_some', begin_no g, bind_some', bk_person failC_at.1, bind_some']
    dsimp only
    rw [bk_pass failC_at.1, bind_some', bk_sees failC_at.1, bind_some']
    dsimp only
    rw [if_neg nz0, bind_some', if_pos (by decide), bk_fail failC_at.1, bind_some', bind_some', bk_pass failC_at.1, bind_some', bk10 _ failC_at.1, bind_some', bk_small failC_at.1, bind_some']
    dsimp only
    rw [bk59 _ failC_at.1, bind_some', if_neg (show ¬ ((¬ n32 (failC C 2 40 4) = 24) ∧ ((¬ n32 (-1) = (-1)) ∧ (¬ n32 (-1) = (-1)))) from fun z => z.2.1 (by decide)), line_no g (fun _ => hfull)]
    exact ⟨_, _, rfl, rfl, Or.inr (both_fail hB g (by decide) (by decide))⟩
  · rw [decide_eq_false (by omega)] at hfull
    obtain ⟨C1, R1, k1, k2, k3⟩ := pass_ok hB hon g
    rw [if_neg (by decide)] at k3
    obtain ⟨x, Ca, Cb, r4, y, R2, a1, a2, a3, a4, a5, a6⟩ := person_pass hB (HN_of hI0) k3
    obtain ⟨rs, z, Cc, Cd, Ce, r7, M17, r40, R3, d1, d2, d3, d4, d5, d6, d7, d9⟩ := wish2 hB hI0 a6
    clear a5
    have e39 : R1 81 39 = (b : Int) := (k3.1.2 _ _ (by omega)).trans h39
    have e39' : R2 81 39 = (b : Int) := (a6.1.2 _ _ (by omega)).trans h39
    have e89 : R1 89 b = (nW R b : Int) := (k3.1.2 _ _ (by omega)).trans hWn.1
    have hl24 : 12 * b + nW R b < 24 := by omega
    have hcw := d3
    unfold clsWish at hcw
    rw [if_pos (show (nW R b : Int) < 12 by omega), bind_some', begin_yes, k1, bind_some', a1, bind_some']
    dsimp only
    rw [a2, bind_some', d1, bind_some']
    dsimp only
    rw [d2, bind_some', hcw, bind_some', d4, bind_some', rl_Wish h8.1 h8.2 hfull (gd_good g.2.1.1), k2, bind_some']
    unfold M_readWish
    rw [e39, chk_pos (by omega), lt1_eq, tn_nat, e89, show 12 * (b : Int) + (nW R b : Int) = ((12 * b + nW R b : Nat) : Int) by omega, a3, bind_some', a4, bind_some']
    dsimp only
    rw [d5, bind_some', lt1_eq, e39', show 12 * (b : Int) = ((12 * b : Nat) : Int) by omega, d6, bind_some', chk_pos (by omega), lt1_eq, tn_nat, d7, bind_some']
    dsimp only
    rw [lt1_eq]
    have w1 := S3_up d9 (c := 102) (k := 12 * b + nW R b) (v := r40) (by decide)
    have hB1 := TB_up (TB_up hB (c := 101) (k := 12 * b + nW R b) (v := y) (by decide) (by decide)) (c := 102) (k := 12 * b + nW R b) (v := r40) (by decide) (by decide)
    obtain ⟨C3, xs, C4, ys, R4, f1, f2, f3, f4⟩ := after_ok hB1 (j := 9) (by decide) w1
    rw [wconst.2.2.2.2.2.2.2.2.2.1] at f3
    rw [show ((9 + 1 : Nat) : Int) = 10 from rfl] at f1
    rw [f1, bind_some', f2, bind_some', f3, bind_some']
    dsimp only
    rw [lt1_eq]
    have e39'' : up R4 103 (12 * b + nW R b) ys 81 39 = (b : Int) := by rw [up_c (by decide), f4.1.2 _ _ (by omega), up_c (by decide), up_c (by decide)]; exact h39
    have e89'' : up R4 103 (12 * b + nW R b) ys 89 b = (nW R b : Int) := by rw [up_c (by decide), f4.1.2 _ _ (by omega), up_c (by decide), up_c (by decide)]; exact hWn.1
    rw [e39'', chk_pos (by omega), lt1_eq, tn_nat, e89'', bind_some']
    have w2 := S3_up (S3_up f4 (c := 103) (k := 12 * b + nW R b) (v := ys) (by decide)) (c := 89) (k := b) (v := (nW R b : Int) + 1) (by decide)
    have hB2 := TB_up (TB_up hB1 (c := 103) (k := 12 * b + nW R b) (v := ys) (by decide) (by decide)) (c := 89) (k := b) (v := (nW R b : Int) + 1) (by decide) (by decide)
    obtain ⟨r, C7, R7, x1, x2, x3, x4⟩ := must_sign hB2 (w := 59) (by decide) w2
    rw [show ((59 : Nat) : Int) = 59 from rfl] at x1 x2
    rw [x2, bind_some', x1, bind_some', x3, bind_some']
    clear d9 w1 w2 f4 a6 d2 d3 hcw
    obtain ⟨⟨on1, on2⟩, ⟨kd, p', hp', g', ⟨i, j, hi, hj, rfl, rfl, rfl, rfl, hno⟩, cv, hcv, rfl, rfl⟩ | hfb⟩ := x4
    · have hk := Tok_kd g'.2.2.2.2.2
      have e27 : C7 27 16 = (t : Int) := (on1 _ _ (by omega)).trans h27
      have et1 : C7 t 4 = (nW R b : Int) := (on1 _ _ (by omega)).trans hWn.2.1
      have q1 : up C7 (t + 7) (12 * i + j) (cv : Int) 27 16 = (t : Int) := by rw [up_c (by omega)]; exact e27
      have q2 : up C7 (t + 7) (12 * i + j) (cv : Int) t 4 = (nW R b : Int) := by rw [up_c (by omega)]; exact et1
      have hif : (¬ n32 (C7 40 4) = 24) ∧ ((¬ n32 (i : Int) = (-1)) ∧ (¬ n32 (j : Int) = (-1))) := by
        rw [Tok_4 g'.2.2.2.2.2, n32_nat (show i < 2147483648 by omega), n32_nat (show j < 2147483648 by omega)]
        omega
      have eij : Int.toNat ((i : Int) * 12 + (j : Int)) = 12 * i + j := by omega
      rw [if_pos hif, e27, chk_pos (isTI_of rfl ht), lt1_eq, tn_nat, chk_pos (by omega), lt1_eq, eij, q1, chk_pos (isTI_of rfl ht), lt1_eq, lt1_eq, tn_nat, q2]
      refine ⟨_, _, rfl, rfl, Or.inl ?_⟩
      generalize hC8 : up (up C7 (t + 7) (12 * i + j) (cv : Int)) t 4 ((nW R b : Int) + 1) = C8
      have cS : ∀ a k, a ≠ 40 ∧ ¬ (a = t + 7 ∧ k = 12 * i + j) ∧ ¬ (a = t ∧ k = 4) → C8 a k = C a k := fun a k z => by rw [← hC8, up_at, if_neg z.2.2, up_at, if_neg z.2.1]; exact on1 a k z.1
      have c40 : ∀ k, C8 40 k = C7 40 k := fun k => by rw [← hC8, up_c (by omega), up_c (by omega)]
      have e2 : ∀ k, C8 2 k = C7 2 k := fun k => by rw [← hC8, up_c (by omega), up_c (by omega)]
      have cc7 : C8 (t + 7) (12 * i + j) = (cv : Int) := by rw [← hC8, up_c (by omega), up_eq]
      have ct : C8 t 4 = ((nW R b + 1 : Nat) : Int) := by rw [← hC8, up_eq]; omega
      have rS : ∀ a k, ¬ (a = 81 ∧ 4 ≤ k ∧ k ≤ 10) ∧ ¬ (a = 101 ∧ k = 12 * b + nW R b) ∧ ¬ (a = 102 ∧ k = 12 * b + nW R b) ∧ ¬ (a = 103 ∧ k = 12 * b + nW R b) ∧ ¬ (a = 89 ∧ k = b) → R7 a k = R a k := fun a k z => by rw [on2 a k z.1, up_at, if_neg z.2.2.2.2, up_at, if_neg z.2.2.2.1, up_at, if_neg z.2.2.1, up_at, if_neg z.2.1]
      have r89 : R7 89 b = ((nW R b + 1 : Nat) : Int) := by rw [on2 _ _ (by omega), up_eq]; omega
      have r101 : R7 101 (12 * b + nW R b) = (i : Int) := by rw [on2 _ _ (by omega), up_c (by decide), up_c (by decide), up_c (by decide), up_eq]
      have r102 : R7 102 (12 * b + nW R b) = (j : Int) := by rw [on2 _ _ (by omega), up_c (by decide), up_c (by decide), up_eq]
      have r103 : R7 103 (12 * b + nW R b) = (cv : Int) := by rw [on2 _ _ (by omega), up_c (by decide), up_eq]
      have eF : nF R7 b = nF R b := by unfold nF; rw [rS 84 _ (by omega)]
      have eP : nP R7 b = nP R b := by unfold nP; rw [rS 85 _ (by omega)]
      have eR : nR R7 b = nR R b := by unfold nR; rw [rS 86 _ (by omega)]
      have eTn : nT R7 b = nT R b := by unfold nT; rw [rS 88 _ (by omega)]
      have eWn : nW R7 b = nW R b + 1 := by unfold nW; rw [r89]; rfl
      refine ⟨s, kd, p', hp', ⟨⟨ht, hb, (cS _ _ (by omega)).trans h27, (rS _ _ (by omega)).trans h39⟩, ?_, ⟨?_, ?_, ?_⟩, ?_, ?_, ?_, ?_, ?_, ?_, ?_, ?_⟩, ?_, ?_⟩
      · obtain ⟨y1, y2, y3, y4, y5, y6⟩ := hN
        unfold NumR
        rw [cS t 0 (by omega), rS 84 _ (by omega), cS t 1 (by omega), rS 85 _ (by omega), cS t 2 (by omega), rS 86 _ (by omega), cS t 3 (by omega), rS 88 _ (by omega), ct, r89, cS t 5 (by omega), rS 90 _ (by omega)]
        exact ⟨y1, y2, y3, y4, ⟨rfl, by omega, by omega⟩, y6⟩
      · rw [eF]
        exact NmQ_keep n1 (fun i hi => cS _ _ (by omega)) (fun i hi => rS _ _ (by omega))
      · rw [eP]
        exact NmQ_keep n2 (fun i hi => cS _ _ (by omega)) (fun i hi => rS _ _ (by omega))
      · rw [eR]
        exact NmQ_keep n3 (fun i hi => cS _ _ (by omega)) (fun i hi => rS _ _ (by omega))
      · exact CostR_keep hCo eP (fun k hk => cS _ _ (by omega)) (fun k hk => rS _ _ (by omega))
      · exact TieQ_keep hTi hb hTn.2.2 eTn (by omega) (fun a k z => cS _ _ (by omega)) (fun k hk => ⟨rS _ _ (by omega), rS _ _ (by omega), rS _ _ (by omega)⟩)
      · exact WishQ_add hWi eWn (by omega) (by omega) hno hcv (fun k hk => cS _ _ (by omega)) cc7 (fun k hk => ⟨rS _ _ (by omega), rS _ _ (by omega), rS _ _ (by omega)⟩) ⟨r101, r102, r103⟩
      · exact KnoP_keep hKn eP (fun k hk => cS _ _ (by omega)) (fun k hk => rS _ _ (by omega))
      · exact ⟨hCn.1, (cS _ _ (by omega)).trans hCn.2.1, (rS _ _ (by omega)).trans hCn.2.2.1, by rw [rS 90 _ (by omega)]; exact hCn.2.2.2⟩
      · exact RowsQ_keep hRo (Nat.le_refl _) hb hR.2.2 eR (by omega) (by omega) (fun k hk => ⟨cS _ _ (by omega), cS _ _ (by omega), cS _ _ (by omega)⟩) (fun k hk => cS _ _ (by omega)) (fun k hk => ⟨rS _ _ (by omega), rS _ _ (by omega), rS _ _ (by omega)⟩) (fun k hk => ⟨rS _ _ (by omega), rS _ _ (by omega)⟩)
      · exact AlwQ_keep hAl (Nat.le_refl _) hb (by omega) (by omega) (by omega) (cS _ _ (by omega)) (rS _ _ (by omega)) (fun k hk => cS _ _ (by omega)) (fun k hk => ⟨cS _ _ (by omega), cS _ _ (by omega)⟩) (fun k hk => cS _ _ (by omega)) (fun k hk hk2 => ⟨rS _ _ (by omega), rS _ _ (by omega)⟩) (fun k hk => ⟨rS _ _ (by omega), rS _ _ (by omega)⟩)
      · exact LwQ_keep hLw (Nat.le_refl _) ⟨cS _ _ (by omega), cS _ _ (by omega), cS _ _ (by omega)⟩ (rS _ _ (by omega)) (fun k hk => cS _ _ (by omega)) ⟨rS _ _ (by omega), rS _ _ (by omega)⟩ (fun k hk => ⟨rS _ _ (by omega), rS _ _ (by omega)⟩)
      · obtain ⟨y1, y2, y3, y4, y5⟩ := hB
        exact ⟨y1, fun i hi => by rw [cS _ _ (by omega)]; exact y2 i hi, (rS _ _ (by omega)).trans y3, fun i hi => by rw [rS _ _ (by omega), cS _ _ (by omega)]; exact y4 i hi, fun i hi => by rw [cS _ _ (by omega)]; exact y5 i hi⟩
      · unfold Gd Tok at g' ⊢
        simp only [c40, e2]
        exact g'
    · obtain ⟨fv, fp, ⟨z1, z2, z3⟩, z4⟩ := hfb
      rw [if_neg (show ¬ ((¬ n32 (C7 40 4) = 24) ∧ ((¬ n32 x = (-1)) ∧ (¬ n32 z = (-1)))) from fun w => w.1 (by rw [z1]; rfl))]
      exact ⟨_, _, rfl, rfl, Or.inr ⟨fv, fp, ⟨z1, z2, z3⟩, z4⟩⟩
end LWISH
