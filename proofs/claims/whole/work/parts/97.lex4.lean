/-! ===== tokens: class and reference see the same ===== -/
def Tok (n kd : Nat) (C R : Mem) : Prop := C 40 4 = (kd : Int) ∧ ((kd = 23 ∧ R 81 8 = 0) ∨ (kd = 21 ∧ R 81 8 = 2 ∧ ∃ m : Nat, m < 2 ^ 40 ∧ C 40 7 = (m : Int) ∧ R 81 10 = ((w256 m : Nat) : Int)) ∨ (1 ≤ kd ∧ kd ≤ 20 ∧ R 81 8 = 3 ∧ R 81 10 = ((WN (kd - 1) : Nat) : Int)) ∨ (kd = 22 ∧ R 81 8 = 4 ∧ ∃ v : Nat, v < 10000 ∧ C 40 6 = (v : Int) ∧ R 81 9 = (v : Int)) ∨ (isSg (kd : Int) = true ∧ R 81 8 = 5 ∧ ∃ p : Nat, p < n ∧ R 81 6 = (p : Int) ∧ C 2 p = (kd : Int)))
theorem isSg_rng {x : Int} (h : isSg x = true) : 40 ≤ x ∧ x ≤ 62 := by
  unfold isSg at h
  rw [decide_eq_true_eq] at h
  omega
theorem lex {n : Nat} {C R : Mem} (hT : TXc n C) (hr : TXr n C R) (hK : KeptR C) {a : Nat} (ha : a ≤ n) (h3 : C 40 3 = (a : Int)) (h7 : R 81 7 = (a : Int)) (h4 : ¬ n32 (C 40 4) = 24) : ∃ C' R' p, K_pass C = some C' ∧ M_goOn R = some R' ∧ (∀ c k, c ≠ 40 → C' c k = C c k) ∧ C' 40 2 = (n : Int) ∧ (∀ c k, ¬ (c = 81 ∧ 6 ≤ k ∧ k ≤ 10) → R' c k = R c k) ∧ a ≤ p ∧ p ≤ n ∧ C' 40 5 = (p : Int) ∧ R' 81 6 = (p : Int) ∧ ((∃ kd e : Nat, p ≤ e ∧ e ≤ n ∧ (kd ≠ 23 → p < e) ∧ C' 40 3 = (e : Int) ∧ R' 81 7 = (e : Int) ∧ C' 40 8 = C 40 8 ∧ C' 40 9 = C 40 9 ∧ Tok n kd C' R') ∨ (C' 40 4 = 24 ∧ C' 40 8 = 1 ∧ C' 40 9 = (p : Int) ∧ R' 81 8 = 1)) := by
  have hn := hT.1
  obtain ⟨k, hk⟩ := Run_ex (n := n) (C := C) (f := isBl) ha
  have hpk := hk.1
  -- the class's blanks
  obtain ⟨C1, c1, c3, cf⟩ := c_blank hT h3 hk
  generalize hp : a + k = p at *
  have hC2 : up C1 40 5 (C1 40 3) = up C1 40 5 (p : Int) := by rw [c3]
  generalize hC2' : up C1 40 5 (p : Int) = C2 at *
  have d3 : C2 40 3 = (p : Int) := by rw [← hC2', up_k (by decide)]; exact c3
  have d5 : C2 40 5 = (p : Int) := by rw [← hC2', up_eq]
  have df : ∀ c j, ¬ (c = 40 ∧ (j = 3 ∨ j = 5)) → C2 c j = C c j := fun c j z => by rw [← hC2', up_at, if_neg (by omega)]; exact cf c j (by omega)
  have hT2 : TXc n C2 := ⟨hn, by rw [df _ _ (by omega)]; exact hT.2.1, fun i hi => by rw [df _ _ (by omega)]; exact hT.2.2 i hi⟩
  have hK2 : KeptR C2 := fun i hi => by rw [df _ _ (by omega)]; exact hK i hi
  have h42 : ¬ n32 (C2 40 4) = 24 := by rw [df _ _ (by omega)]; exact h4
  have hr2f : ∀ f q L, Run n C f q L → Run n C2 f q L := fun f q L h => ⟨h.1, fun j hj => by rw [df _ _ (by omega)]; exact h.2.1 j hj, fun q2 => by rw [df _ _ (by omega)]; exact h.2.2 q2⟩
  -- the reference's blanks
  generalize hR0 : up R 81 6 (R 81 7) = R0
  have a6 : R0 81 6 = (a : Int) := by rw [← hR0, up_eq]; exact h7
  have af : ∀ c j, ¬ (c = 81 ∧ j = 6) → R0 c j = R c j := fun c j z => by rw [← hR0, up_at, if_neg z]
  have hr0 : TXr n C R0 := TXr_keep hr (fun c j z => af c j (by omega))
  obtain ⟨R1, r1, r6, rf⟩ := r_blank hT hr0 a6 hk
  rw [hp] at r6
  have hr1 : TXr n C R1 := TXr_keep hr (fun c j z => (rf c j (by omega)).trans (af c j (by omega)))
  generalize hR2 : up R1 81 7 (R1 81 6 + 1) = R2
  have b6 : R2 81 6 = (p : Int) := by rw [← hR2, up_k (by decide)]; exact r6
  have b7 : R2 81 7 = ((p + 1 : Nat) : Int) := by rw [← hR2, up_eq, r6]; omega
  have bf : ∀ c j, ¬ (c = 81 ∧ (j = 6 ∨ j = 7)) → R2 c j = R c j := fun c j z => by rw [← hR2, up_at, if_neg (by omega), rf _ _ (by omega)]; exact af c j (by omega)
  have hr2 : TXr n C R2 := TXr_keep hr (fun c j z => bf c j (by omega))
  unfold K_pass
  rw [if_neg h4, c1, bind_some', lt1_eq, hC2, df 40 2 (by omega), hT.2.1, d3, n32_nat (by omega), n32_nat (by omega)]
  unfold M_goOn
  rw [lt1_eq (up R 81 6 (R 81 7)), hR0, r1, bind_some', r6, sign_eq hT hr1 p (by omega), bind_some', lt1_eq (up R1 81 7 ((p : Int) + 1))]
  rw [r6] at hR2
  rw [hR2, hr2.1, b6, n32_nat (by omega), n32_nat (by omega)]
  by_cases hpn : n ≤ p
  · have hpe : p = n := by omega
    rw [if_pos (by omega), if_pos (by omega), lt1_eq, lt1_eq, lt1_eq, lt1_eq]
    have x3 : ∀ v, up R2 81 8 v 81 3 = (n : Int) := fun v => by rw [up_k (by decide)]; exact hr2.1
    refine ⟨_, _, p, rfl, rfl, fun c j z => ?_, ?_, fun c j z => ?_, by omega, by omega, ?_, ?_, Or.inl ⟨23, p, Nat.le_refl _, by omega, fun z => absurd rfl z, ?_, ?_, ?_, ?_, up_eq, Or.inl ⟨rfl, ?_⟩⟩⟩
    · rw [up_c z]; exact df c j (by omega)
    · rw [up_k (by decide)]; exact (df _ _ (by omega)).trans hT.2.1
    · rw [up_at, if_neg (by omega), up_at, if_neg (by omega), up_at, if_neg (by omega)]; exact bf c j (by omega)
    · rw [up_k (by decide)]; exact d5
    · rw [up_k (by decide), up_eq, x3, hpe]
    · rw [up_k (by decide)]; exact d3
    · rw [up_eq, up_k (by decide), x3, hpe]
    · rw [up_k (by decide)]; exact df _ _ (by omega)
    · rw [up_k (by decide)]; exact df _ _ (by omega)
    · rw [up_k (by decide), up_k (by decide), up_eq]
  · have hlt : p < n := by omega
    obtain ⟨t1, t2⟩ := hT.2.2 p hlt
    have e2 : C2 2 p = C 2 p := df _ _ (by omega)
    obtain ⟨s1, s2, s3⟩ := sg_cls hT p R2
    rw [decide_eq_true hlt, Bool.true_and] at s1 s2 s3
    obtain ⟨-, u1, u2, u3, -⟩ := K_bl t1 (by omega) C2
    rw [if_neg (by omega), if_neg (by omega), chk_pos (by omega), tn_nat, e2, u1, bind_some', s1, bind_some']
    cases hle : isLe (C 2 p) with
    | true =>
      obtain ⟨L, hL⟩ := Run_ex (n := n) (C := C) (f := isLe) (a := p) (by omega)
      have hL0 : 0 < L := by
        refine Classical.byContradiction (fun z => ?_)
        obtain rfl : L = 0 := by omega
        have := hL.2.2 hlt
        rw [Nat.add_zero, hle] at this
        cases this
      obtain ⟨C3, w1, w2, w3, w4, w5⟩ := c_word hT2 hK2 d3 d5 (hr2f _ _ _ hL) h42
      obtain ⟨R3, v1, v2, v3⟩ := r_wend hT hr2 b7 hL0 hL
      have enm : nmN C2 p L = nmN C p L := by
        have : ∀ i, nmN C2 p i = nmN C p i := fun i => by
          induction i with
          | zero => rfl
          | succ i ih =>
            show 32 * nmN C2 p i + (C2 2 (p + i) - 96).toNat = 32 * nmN C p i + (C 2 (p + i) - 96).toNat
            rw [ih, df _ _ (by omega)]
        exact this L
      rw [enm] at w5
      generalize hR4 : up R3 81 10 0 = R4
      have g6 : R4 81 6 = (p : Int) := by rw [← hR4, up_k (by decide), v3 _ _ (by omega)]; exact b6
      have g7 : R4 81 7 = ((p + L : Nat) : Int) := by rw [← hR4, up_k (by decide)]; exact v2
      have g10 : R4 81 10 = 0 := by rw [← hR4, up_eq]
      have gf : ∀ c j, ¬ (c = 81 ∧ (j = 7 ∨ j = 10)) → R4 c j = R2 c j := fun c j z => by rw [← hR4, up_at, if_neg (by omega)]; exact v3 c j (by omega)
      have hr4 : TXr n C R4 := TXr_keep hr (fun c j z => (gf c j (by omega)).trans (bf c j (by omega)))
      obtain ⟨R5, q1, q2, q3⟩ := r_wname hT hr4 g6 g7 g10 hL
      have hLn := hL.1
      rw [show b1 true = 1 from rfl, if_pos nz1, if_pos nz1, w1, bind_some', v1, bind_some', lt1_eq, hR4, g6, lt1_eq, q1, bind_some', q3 81 7 (by omega), g7, q3 81 6 (by omega), g6, show ((p + L : Nat) : Int) - (p : Int) = (L : Int) by omega, n32_nat (by omega)]
      have fin : ∀ v : Int, up R5 81 8 v 81 6 = (p : Int) ∧ up R5 81 8 v 81 7 = ((p + L : Nat) : Int) ∧ ∀ c j, ¬ (c = 81 ∧ 6 ≤ j ∧ j ≤ 10) → up R5 81 8 v c j = R c j := fun v => ⟨by rw [up_k (by decide), q3 _ _ (by omega)]; exact g6, by rw [up_k (by decide), q3 _ _ (by omega)]; exact g7, fun c j z => by rw [up_at, if_neg (by omega), q3 _ _ (by omega), gf _ _ (by omega)]; exact bf c j (by omega)⟩
      rcases w5 with ⟨m1, m2, m3, m4, m5, m6⟩ | ⟨m1, m2, m3, m4⟩
      · have hm40 : nmN C p L < 2 ^ 40 := by
          have h1 := nmN_lt hL L (Nat.le_refl _)
          have h2 : 32 ^ L ≤ 32 ^ 8 := Nat.pow_le_pow_right (by omega) (by omega)
          rw [show (32 : Nat) ^ 8 = 2 ^ 40 by decide] at h2
          omega
        rw [if_neg (by omega), q2 m1]
        by_cases hj : ∃ j, j < 20 ∧ kwN j = nmN C p L
        · obtain ⟨j, hj, ej⟩ := hj
          have ek : M_isKept ((w256 (nmN C p L) : Nat) : Int) R5 = some 1 := by rw [← ej]; exact kept_yes hj R5
          rw [ek, bind_some', if_pos nz1, bind_some', lt1_eq]
          obtain ⟨z1, z2, z3⟩ := fin 3
          refine ⟨_, _, p, rfl, rfl, fun c j z => (w2 c j z).trans (df c j (by omega)), (w3.trans (df _ _ (by omega))).trans hT.2.1, z3, by omega, by omega, w4, z1, Or.inl ⟨j + 1, p + L, by omega, hLn, fun _ => by omega, m2, z2, m5.trans (df _ _ (by omega)), m6.trans (df _ _ (by omega)), ?_, Or.inr (Or.inr (Or.inl ⟨by omega, by omega, up_eq, ?_⟩))⟩⟩
          · rw [m3, ← ej, kf_yes j hj]
          · rw [up_k (by decide), q2 m1, ← ej]
            rfl
        · have hno : ∀ j, j < 20 → kwN j ≠ nmN C p L := fun j hj' z => hj ⟨j, hj', z⟩
          rw [kept_no hm40 hno, bind_some', if_neg nz0, bind_some', lt1_eq]
          obtain ⟨z1, z2, z3⟩ := fin 2
          refine ⟨_, _, p, rfl, rfl, fun c j z => (w2 c j z).trans (df c j (by omega)), (w3.trans (df _ _ (by omega))).trans hT.2.1, z3, by omega, by omega, w4, z1, Or.inl ⟨21, p + L, by omega, hLn, fun _ => by omega, m2, z2, m5.trans (df _ _ (by omega)), m6.trans (df _ _ (by omega)), ?_, Or.inr (Or.inl ⟨rfl, up_eq, nmN C p L, hm40, m4, ?_⟩)⟩⟩
          · rw [m3, kf_no hno]
          · rw [up_k (by decide), q2 m1]
      · rw [if_pos (by omega), bind_some', lt1_eq]
        obtain ⟨z1, z2, z3⟩ := fin 1
        exact ⟨_, _, p, rfl, rfl, fun c j z => (w2 c j z).trans (df c j (by omega)), (w3.trans (df _ _ (by omega))).trans hT.2.1, z3, by omega, by omega, w4, z1, Or.inr ⟨m2, m3, m4, up_eq⟩⟩
    | false =>
      rw [show b1 false = 0 from rfl, if_neg nz0, if_neg nz0, u2, bind_some', s2, bind_some']
      cases hdi : isDi (C 2 p) with
      | true =>
        obtain ⟨L, hL⟩ := Run_ex (n := n) (C := C) (f := isDi) (a := p) (by omega)
        have hL0 : 0 < L := by
          refine Classical.byContradiction (fun z => ?_)
          obtain rfl : L = 0 := by omega
          have := hL.2.2 hlt
          rw [Nat.add_zero, hdi] at this
          cases this
        have hLn := hL.1
        obtain ⟨C3, w1, w2, w3, w4, w5⟩ := c_num hT2 d3 d5 (hr2f _ _ _ hL) h42
        have evl : vlN C2 p L = vlN C p L := by
          have : ∀ i, vlN C2 p i = vlN C p i := fun i => by
            induction i with
            | zero => rfl
            | succ i ih =>
              show 10 * vlN C2 p i + (C2 2 (p + i) - 48).toNat = 10 * vlN C p i + (C 2 (p + i) - 48).toNat
              rw [ih, df _ _ (by omega)]
          exact this L
        rw [evl, df 2 _ (by omega)] at w5
        generalize hR4 : up (up R2 81 9 0) 81 7 (up R2 81 9 0 81 6) = R4
        have g6 : R4 81 6 = (p : Int) := by rw [← hR4, up_k (by decide), up_k (by decide)]; exact b6
        have g7 : R4 81 7 = (p : Int) := by rw [← hR4, up_eq, up_k (by decide)]; exact b6
        have g9 : R4 81 9 = 0 := by rw [← hR4, up_k (by decide), up_eq]
        have gf : ∀ c j, ¬ (c = 81 ∧ (j = 7 ∨ j = 9)) → R4 c j = R2 c j := fun c j z => by rw [← hR4, up_at, if_neg (by omega), up_at, if_neg (by omega)]
        have hr4 : TXr n C R4 := TXr_keep hr (fun c j z => (gf c j (by omega)).trans (bf c j (by omega)))
        obtain ⟨R5, q1, q2, q3, q4⟩ := r_num hT hr4 g6 g7 g9 hL
        have hr5 : TXr n C R5 := TXr_keep hr4 (fun c j z => q4 c j (by omega))
        rw [show b1 true = 1 from rfl, if_pos nz1, if_pos nz1, w1, bind_some', lt1_eq, lt1_eq, hR4, q1, bind_some', q2, q4 81 6 (by omega), g6, show ((p + L : Nat) : Int) - (p : Int) = (L : Int) by omega, n32_nat (by omega), sign_eq hT hr5 _ (by omega), bind_some', (sg_cls hT (p + L) R5).1, bind_some']
        have fin : ∀ v : Int, up R5 81 8 v 81 6 = (p : Int) ∧ up R5 81 8 v 81 7 = ((p + L : Nat) : Int) ∧ ∀ c j, ¬ (c = 81 ∧ 6 ≤ j ∧ j ≤ 10) → up R5 81 8 v c j = R c j := fun v => ⟨by rw [up_k (by decide), q4 _ _ (by omega)]; exact g6, by rw [up_k (by decide)]; exact q2, fun c j z => by rw [up_at, if_neg (by omega), q4 _ _ (by omega), gf _ _ (by omega)]; exact bf c j (by omega)⟩
        rcases w5 with ⟨m1, m2, m3, m4, m5, m6, m7⟩ | ⟨m1, m2, m3, m4⟩
        · have hz : (decide (p + L < n) && isLe (C 2 (p + L))) = false := by
            by_cases q : p + L < n
            · rw [decide_eq_true q, Bool.true_and]
              cases hh : isLe (C 2 (p + L)) with
              | false => rfl
              | true => exact absurd ⟨q, hh⟩ m2
            · rw [decide_eq_false q]; rfl
          rw [if_pos (by omega), hz, show b1 false = 0 from rfl, if_neg nz0, bind_some', if_neg (by decide), bind_some', lt1_eq]
          obtain ⟨z1, z2, z3⟩ := fin 4
          have hv := vlN_lt hL L (Nat.le_refl _)
          have hv2 : 10 ^ L ≤ 10 ^ 4 := Nat.pow_le_pow_right (by omega) m1
          exact ⟨_, _, p, rfl, rfl, fun c j z => (w2 c j z).trans (df c j (by omega)), (w3.trans (df _ _ (by omega))).trans hT.2.1, z3, by omega, by omega, w4, z1, Or.inl ⟨22, p + L, by omega, hLn, fun _ => by omega, m3, z2, m6.trans (df _ _ (by omega)), m7.trans (df _ _ (by omega)), m4, Or.inr (Or.inr (Or.inr (Or.inl ⟨rfl, up_eq, vlN C p L, by omega, m5, by rw [up_k (by decide)]; exact q3 m1⟩)))⟩⟩
        · have e9 : (if (L : Int) ≤ 4 then (if ¬ n32 (b1 (decide (p + L < n) && isLe (C 2 (p + L)))) = 0 then some true else some false) else some true) = some true := by
            by_cases q : L ≤ 4
            · rw [if_pos (by omega)]
              have := m1.resolve_left (by omega)
              rw [decide_eq_true this.1, this.2]
              rfl
            · rw [if_neg (by omega)]
          rw [e9, bind_some', if_pos rfl, bind_some', lt1_eq]
          obtain ⟨z1, z2, z3⟩ := fin 1
          exact ⟨_, _, p, rfl, rfl, fun c j z => (w2 c j z).trans (df c j (by omega)), (w3.trans (df _ _ (by omega))).trans hT.2.1, z3, by omega, by omega, w4, z1, Or.inr ⟨m2, m3, m4, up_eq⟩⟩
      | false =>
        rw [show b1 false = 0 from rfl, if_neg nz0, if_neg nz0, u3, bind_some', s3, bind_some']
        have fin : ∀ v : Int, up R2 81 8 v 81 6 = (p : Int) ∧ up R2 81 8 v 81 7 = ((p + 1 : Nat) : Int) ∧ ∀ c j, ¬ (c = 81 ∧ 6 ≤ j ∧ j ≤ 10) → up R2 81 8 v c j = R c j := fun v => ⟨by rw [up_k (by decide)]; exact b6, by rw [up_k (by decide)]; exact b7, fun c j z => by rw [up_at, if_neg (by omega)]; exact bf c j (by omega)⟩
        cases hsg : isSg (C 2 p) with
        | true =>
          have hrng := isSg_rng hsg
          rw [show b1 true = 1 from rfl, if_pos nz1, if_pos nz1, lt1_eq, lt1_eq, bind_some', lt1_eq]
          obtain ⟨z1, z2, z3⟩ := fin 5
          have ekd : (((C 2 p).toNat : Nat) : Int) = C 2 p := by omega
          refine ⟨_, _, p, rfl, rfl, fun c j z => ?_, ?_, z3, by omega, by omega, ?_, z1, Or.inl ⟨(C 2 p).toNat, p + 1, by omega, by omega, fun _ => by omega, ?_, z2, ?_, ?_, ?_, Or.inr (Or.inr (Or.inr (Or.inr ⟨by rw [ekd]; exact hsg, up_eq, p, hlt, z1, ?_⟩)))⟩⟩
          · rw [up_c z, up_c z]; exact df c j (by omega)
          · rw [up_k (by decide), up_k (by decide)]; exact (df _ _ (by omega)).trans hT.2.1
          · rw [up_k (by decide), up_k (by decide)]; exact d5
          · rw [up_eq, up_k (by decide), d3]; omega
          · rw [up_k (by decide), up_k (by decide)]; exact df _ _ (by omega)
          · rw [up_k (by decide), up_k (by decide)]; exact df _ _ (by omega)
          · rw [up_k (by decide), up_eq, ekd]
          · rw [up_c (by decide), up_c (by decide), ekd]; exact e2
        | false =>
          rw [show b1 false = 0 from rfl, if_neg nz0, if_neg nz0, bind_some', lt1_eq]
          unfold K_fail
          rw [if_pos h42, lt1_eq, lt1_eq, lt1_eq, bind_some']
          obtain ⟨z1, z2, z3⟩ := fin 1
          refine ⟨_, _, p, rfl, rfl, fun c j z => ?_, ?_, z3, by omega, by omega, ?_, z1, Or.inr ⟨?_, ?_, ?_, up_eq⟩⟩
          · rw [up_c z, up_c z, up_c z]; exact df c j (by omega)
          · rw [up_k (by decide), up_k (by decide), up_k (by decide)]; exact (df _ _ (by omega)).trans hT.2.1
          · rw [up_k (by decide), up_k (by decide), up_k (by decide)]; exact d5
          · rw [up_k (by decide), up_k (by decide), up_eq]
          · rw [up_k (by decide), up_eq]
          · rw [up_eq, up_k (by decide), up_k (by decide)]; exact d5
