/-! ===== operations: image back ===== -/
def ycp (C : Mem) (s f m : Nat) : Mem := wup (wup (wup (wup (wup (wup (up C s 0 (m : Int)) (s + 1) 0 m (C (f + 1))) (s + 2) 0 m (C (f + 2))) (s + 3) 0 m (C (f + 3))) (s + 4) 0 m (C (f + 4))) (s + 5) 0 m (C (f + 5))) (s + 6) 0 (4 * m) (C (f + 6))
theorem isY_far {s f : Nat} (hs : isY s) (hf : isY f) (h : s ≠ f) : s + 6 < f ∨ f + 6 < s := by
  unfold isY at hs hf
  omega
theorem cpy_eq {M : Mem} {c c' n : Nat} {x : Int} {g : Nat → Int} (hx : x = (n : Int)) (hg : ∀ i, M c i = g i) : cpy M c c' (Int.toNat 0) (Int.toNat 0) (Int.toNat x) = wup M c' 0 n g := by
  subst hx
  funext a b
  show (if a = c' ∧ 0 ≤ b ∧ b < 0 + n then M c (0 + (b - 0)) else M a b) = _
  rw [wup_at]
  simp only [Nat.zero_add, Nat.sub_zero, hg]
theorem Y_copy_eq {C : Mem} {s f m : Nat} (hs : isY s) (hf : isY f) (hne : s ≠ f) (h0 : C f 0 = (m : Int)) (hm : m ≤ 40) (h3 : ∀ i, i < m → C (f + 3) i = 0 ∨ C (f + 3) i = 1) : Y_copy s f C = some (ycp C s f m) := by
  have hd := isY_far hs hf hne
  unfold Y_copy
  rw [h0]
  have e0 : ∀ j i, 1 ≤ j → j ≤ 6 → up C s 0 (m : Int) (f + j) i = C (f + j) i := fun j i h1 h2 => up_c (by omega)
  have r0 : up C s 0 (m : Int) s 0 = (m : Int) := up_eq
  rw [lt1_eq, chk_pos (by rw [r0]; omega), lt1_eq, cpy_eq r0 (g := C (f + 1)) (fun i => e0 1 i (by omega) (by omega))]
  generalize hA : wup (up C s 0 (m : Int)) (s + 1) 0 m (C (f + 1)) = A
  have e1 : ∀ j i, 2 ≤ j → j ≤ 6 → A (f + j) i = C (f + j) i := fun j i h1 h2 => by rw [← hA, wup_c (by omega)]; exact e0 j i (by omega) h2
  have r1 : A s 0 = (m : Int) := by rw [← hA, wup_c (by omega)]; exact r0
  rw [chk_pos (by rw [r1]; omega), lt1_eq, cpy_eq r1 (g := C (f + 2)) (fun i => e1 2 i (by omega) (by omega))]
  generalize hB : wup A (s + 2) 0 m (C (f + 2)) = B
  have e2 : ∀ j i, 3 ≤ j → j ≤ 6 → B (f + j) i = C (f + j) i := fun j i h1 h2 => by rw [← hB, wup_c (by omega)]; exact e1 j i (by omega) h2
  have r2 : B s 0 = (m : Int) := by rw [← hB, wup_c (by omega)]; exact r1
  rw [chk_pos (by rw [r2]; refine ⟨by omega, by omega, by omega, by omega, by omega, fun i hi => ?_⟩; rw [e2 3 _ (by omega) (by omega)]; exact h3 _ (by have : i < (m : Int).toNat := hi; omega)), lt1_eq, cpy_eq r2 (g := C (f + 3)) (fun i => e2 3 i (by omega) (by omega))]
  generalize hD : wup B (s + 3) 0 m (C (f + 3)) = D
  have e3 : ∀ j i, 4 ≤ j → j ≤ 6 → D (f + j) i = C (f + j) i := fun j i h1 h2 => by rw [← hD, wup_c (by omega)]; exact e2 j i (by omega) h2
  have r3 : D s 0 = (m : Int) := by rw [← hD, wup_c (by omega)]; exact r2
  rw [chk_pos (by rw [r3]; omega), lt1_eq, cpy_eq r3 (g := C (f + 4)) (fun i => e3 4 i (by omega) (by omega))]
  generalize hE : wup D (s + 4) 0 m (C (f + 4)) = E
  have e4 : ∀ j i, 5 ≤ j → j ≤ 6 → E (f + j) i = C (f + j) i := fun j i h1 h2 => by rw [← hE, wup_c (by omega)]; exact e3 j i (by omega) h2
  have r4 : E s 0 = (m : Int) := by rw [← hE, wup_c (by omega)]; exact r3
  rw [chk_pos (by rw [r4]; omega), lt1_eq, cpy_eq r4 (g := C (f + 5)) (fun i => e4 5 i (by omega) (by omega))]
  generalize hF : wup E (s + 5) 0 m (C (f + 5)) = F
  have e5 : ∀ i, F (f + 6) i = C (f + 6) i := fun i => by rw [← hF, wup_c (by omega)]; exact e4 6 i (by omega) (by omega)
  have r5 : F s 0 = (m : Int) := by rw [← hF, wup_c (by omega)]; exact r4
  rw [chk_pos (by rw [r5]; omega), lt1_eq, cpy_eq (n := 4 * m) (by rw [r5]; omega) (g := C (f + 6)) e5]
  rw [← hF, ← hE, ← hD, ← hB, ← hA]
  rfl
theorem ycp_c {C : Mem} {s f m c k : Nat} (h : c < s ∨ s + 6 < c) : ycp C s f m c k = C c k := by
  unfold ycp
  rw [wup_c (by omega), wup_c (by omega), wup_c (by omega), wup_c (by omega), wup_c (by omega), wup_c (by omega), up_c (by omega)]
theorem ycp_s {C : Mem} {s f m k : Nat} : ycp C s f m s k = if k = 0 then (m : Int) else C s k := by
  unfold ycp
  rw [wup_c (by omega), wup_c (by omega), wup_c (by omega), wup_c (by omega), wup_c (by omega), wup_c (by omega), up_at]
  simp only [true_and]
theorem ycp_j {C : Mem} {s f m i : Nat} (h : i < m) : ycp C s f m (s + 1) i = C (f + 1) i ∧ ycp C s f m (s + 2) i = C (f + 2) i ∧ ycp C s f m (s + 3) i = C (f + 3) i ∧ ycp C s f m (s + 4) i = C (f + 4) i ∧ ycp C s f m (s + 5) i = C (f + 5) i := by
  unfold ycp
  refine ⟨?_, ?_, ?_, ?_, ?_⟩
  · rw [wup_c (by omega), wup_c (by omega), wup_c (by omega), wup_c (by omega), wup_c (by omega), wup_at, if_pos (by omega), Nat.sub_zero]
  · rw [wup_c (by omega), wup_c (by omega), wup_c (by omega), wup_c (by omega), wup_at, if_pos (by omega), Nat.sub_zero]
  · rw [wup_c (by omega), wup_c (by omega), wup_c (by omega), wup_at, if_pos (by omega), Nat.sub_zero]
  · rw [wup_c (by omega), wup_c (by omega), wup_at, if_pos (by omega), Nat.sub_zero]
  · rw [wup_c (by omega), wup_at, if_pos (by omega), Nat.sub_zero]
theorem ycp_6 {C : Mem} {s f m i : Nat} (h : i < 4 * m) : ycp C s f m (s + 6) i = C (f + 6) i := by
  unfold ycp
  rw [wup_at, if_pos (by omega), Nat.sub_zero]
/-- six columns of the reference, one row after another -/
def col6 (R : Mem) (d e o p i : Nat) : Mem := fun c k => if d ≤ c ∧ c ≤ d + 5 ∧ o ≤ k ∧ k < o + i then R (e + (c - d)) (p + (k - o)) else R c k
theorem col6_0 {R : Mem} {d e o p : Nat} : col6 R d e o p 0 = R := by
  funext c k
  unfold col6
  rw [if_neg (by omega)]
theorem col6_c {R : Mem} {d e o p i c k : Nat} (h : c < d ∨ d + 5 < c) : col6 R d e o p i c k = R c k := by
  unfold col6
  rw [if_neg (by omega)]
theorem col6_k {R : Mem} {d e o p i c k : Nat} (h : k < o ∨ o + i ≤ k) : col6 R d e o p i c k = R c k := by
  unfold col6
  rw [if_neg (by omega)]
theorem col6_s {R : Mem} {d e o p i : Nat} {x0 x1 x2 x3 x4 x5 : Int} (h0 : x0 = R e (p + i)) (h1 : x1 = R (e + 1) (p + i)) (h2 : x2 = R (e + 2) (p + i)) (h3 : x3 = R (e + 3) (p + i)) (h4 : x4 = R (e + 4) (p + i)) (h5 : x5 = R (e + 5) (p + i)) :
    ∀ c k, (if c = d + 5 ∧ k = o + i then x5 else if c = d + 4 ∧ k = o + i then x4 else if c = d + 3 ∧ k = o + i then x3 else if c = d + 2 ∧ k = o + i then x2 else if c = d + 1 ∧ k = o + i then x1 else if c = d ∧ k = o + i then x0 else col6 R d e o p i c k) = col6 R d e o p (i + 1) c k := by
  intro c k
  by_cases hk : k = o + i
  · subst hk
    by_cases hc : d ≤ c ∧ c ≤ d + 5
    · obtain ⟨j, rfl⟩ := Nat.exists_eq_add_of_le hc.1
      have hj : j = 0 ∨ j = 1 ∨ j = 2 ∨ j = 3 ∨ j = 4 ∨ j = 5 := by omega
      have e1 : col6 R d e o p (i + 1) (d + j) (o + i) = R (e + j) (p + i) := by
        unfold col6
        rw [if_pos (by omega), show d + j - d = j from by omega, show o + i - o = i from by omega]
      rw [e1]
      rcases hj with rfl | rfl | rfl | rfl | rfl | rfl
      · rw [if_neg (by omega), if_neg (by omega), if_neg (by omega), if_neg (by omega), if_neg (by omega), if_pos (by omega)]; exact h0
      · rw [if_neg (by omega), if_neg (by omega), if_neg (by omega), if_neg (by omega), if_pos (by omega)]; exact h1
      · rw [if_neg (by omega), if_neg (by omega), if_neg (by omega), if_pos (by omega)]; exact h2
      · rw [if_neg (by omega), if_neg (by omega), if_pos (by omega)]; exact h3
      · rw [if_neg (by omega), if_pos (by omega)]; exact h4
      · rw [if_pos (by omega)]; exact h5
    · rw [if_neg (by omega), if_neg (by omega), if_neg (by omega), if_neg (by omega), if_neg (by omega), if_neg (by omega), col6_c (by omega), col6_c (by omega)]
  · rw [if_neg (by omega), if_neg (by omega), if_neg (by omega), if_neg (by omega), if_neg (by omega), if_neg (by omega)]
    unfold col6
    by_cases q : d ≤ c ∧ c ≤ d + 5 ∧ o ≤ k ∧ k < o + i
    · rw [if_pos q, if_pos (by omega)]
    · rw [if_neg q, if_neg (by omega)]
theorem M_image_loop {R : Mem} {x m : Nat} (hx : x < 3) (hm : m ≤ 40) (h57 : R 81 57 = (m : Int)) (ha : ∀ i, i < m → R 120 i = 0 ∨ R 120 i = 1) (hb : ∀ i, i < m → R 121 i = 0 ∨ R 121 i = 1) : it (M_image_b23 (x : Int)) FUEL (0, R) = some (col6 R 133 116 (40 * x) 0 m) := by
  refine it_for (fun i => ((i : Int), col6 R 133 116 (40 * x) 0 i)) m (by unfold FUEL; omega) (by rw [col6_0]; rfl) ?_ ?_
  · intro i hi
    unfold M_image_b23
    dsimp only
    rw [col6_c (by omega), h57, n32_nat (by omega), n32_nat (by omega), if_pos (by omega), lt1_eq, chk_pos (by omega), chk_pos (by omega), show Int.toNat (40 * (x : Int) + (i : Int)) = 40 * x + i from by omega, tn_nat]
    simp only [lt1_eq]
    rw [chk_pos ?_, chk_pos ?_]
    · simp (disch := omega) only [up_c, col6_c]
      refine congrArg some (congrArg Sum.inl (Prod.ext rfl ?_))
      funext c k
      dsimp only
      rw [up_at, up_at, up_at, up_at, up_at, up_at]
      refine col6_s (d := 133) (e := 116) (o := 40 * x) (p := 0) ?_ ?_ ?_ ?_ ?_ ?_ c k <;> rw [Nat.zero_add]
    · simp (disch := omega) only [up_c, col6_c]
      exact hb i hi
    · simp (disch := omega) only [up_c, col6_c]
      exact ha i hi
  · unfold M_image_b23
    dsimp only
    rw [col6_c (by omega), h57, n32_nat (by omega), if_neg (by omega)]
theorem M_back_loop {R : Mem} {x m : Nat} (hx : x < 3) (hm : m ≤ 40) (h57 : R 81 57 = (m : Int)) (ha : ∀ i, i < m → R 137 (40 * x + i) = 0 ∨ R 137 (40 * x + i) = 1) (hb : ∀ i, i < m → R 138 (40 * x + i) = 0 ∨ R 138 (40 * x + i) = 1) : it (M_back_b32 (x : Int)) FUEL (0, R) = some (col6 R 116 133 0 (40 * x) m) := by
  refine it_for (fun i => ((i : Int), col6 R 116 133 0 (40 * x) i)) m (by unfold FUEL; omega) (by rw [col6_0]; rfl) ?_ ?_
  · intro i hi
    unfold M_back_b32
    dsimp only
    rw [col6_c (by omega), h57, n32_nat (by omega), n32_nat (by omega), if_pos (by omega), lt1_eq, chk_pos (by omega), chk_pos (by omega), show Int.toNat (40 * (x : Int) + (i : Int)) = 40 * x + i from by omega, tn_nat]
    simp only [lt1_eq]
    rw [chk_pos ?_, chk_pos ?_]
    · simp (disch := omega) only [up_c, col6_c]
      refine congrArg some (congrArg Sum.inl (Prod.ext rfl ?_))
      funext c k
      dsimp only
      rw [up_at, up_at, up_at, up_at, up_at, up_at]
      have hs := col6_s (R := R) (d := 116) (e := 133) (o := 0) (p := 40 * x) (i := i) rfl rfl rfl rfl rfl rfl c k
      rw [Nat.zero_add] at hs
      exact hs
    · simp (disch := omega) only [up_c, col6_c]
      exact hb i hi
    · simp (disch := omega) only [up_c, col6_c]
      exact ha i hi
  · unfold M_back_b32
    dsimp only
    rw [col6_c (by omega), h57, n32_nat (by omega), if_neg (by omega)]
theorem op_image {C R : Mem} (h : Inv C R) {x : Int} (hx : n32 x = x) : ∃ v C' R', X_image x C = some (v, C') ∧ M_image x R = some (v, R') ∧ Inv C' R' := by
  have h0 := h
  obtain ⟨t, b, ht, h12, h13, hb, h38, a4, a5, a6, a7, a8, ⟨m, m1, m2, m3, m4⟩, a10⟩ := h
  have hx2 := ineg_lt hx
  have ht2 : t + 11 ≤ 26 ∧ 3 ≤ t := by unfold isT at ht; omega
  unfold X_image M_image
  rw [hx, M_isIn_eq _ _ _ _ hx rfl rfl, bind_some']
  by_cases q : x < 0 ∨ 3 ≤ x
  · rw [if_pos q, if_neg (show ¬ (0 ≤ x ∧ x ≤ 2) by omega), if_pos (show n32 0 = 0 by decide)]
    exact ⟨_, _, _, rfl, rfl, h0⟩
  · obtain ⟨x, rfl⟩ : ∃ y : Nat, x = (y : Int) := ⟨x.toNat, by omega⟩
    have hx3 : x < 3 := by omega
    have hY : isY (50 + 7 * x) := by unfold isY; omega
    rw [if_neg q, if_pos (show 0 ≤ (x : Int) ∧ (x : Int) ≤ 2 by omega), if_neg nz1, chk_pos (by omega), chk_pos (by omega), lt1_eq, tn_nat, lt1_eq]
    rw [Y_copy_eq hY qY42 (by omega) m2 m1 (fun i hi => by obtain ⟨-, -, ⟨k1, k2⟩, -⟩ := m4 i hi; show C (42 + 3) i = 0 ∨ C (42 + 3) i = 1; rw [k1]; exact k2), bind_some', lt1_eq, lt1_eq]
    have hr := M_image_loop (R := up R 132 x (R 81 57)) hx3 m1 (by rw [up_c (by omega)]; exact m3) (fun i hi => by rw [up_c (by omega)]; have := (m4 i hi).2.2.2.2.2.1; rw [Nat.zero_add] at this; exact this) (fun i hi => by rw [up_c (by omega)]; have := (m4 i hi).2.2.1.2; rw [Nat.zero_add] at this; exact this)
    rw [hr, bind_some', col6_c (by omega), up_c (by omega), up_c (by omega), ycp_c (by omega), m2, m3]
    refine ⟨_, _, _, rfl, rfl, ?_⟩
    have hS : SameR R (col6 (up R 132 x (m : Int)) 133 116 (40 * x) 0 m) := SameR_of (fun c k h1 h2 h3 => by rw [col6_c (by omega), up_c (by omega)])
    have kC : ∀ c k, c < 50 + 7 * x ∨ 50 + 7 * x + 6 < c → up (ycp C (50 + 7 * x) 42 m) (50 + 7 * x) 1 1 c k = C c k := fun c k h => by rw [up_c (by omega), ycp_c h]
    have kR : ∀ c k, c < 132 → col6 (up R 132 x (m : Int)) 133 116 (40 * x) 0 m c k = R c k := fun c k h => by rw [col6_c (by omega), up_c (by omega)]
    refine Inv_gen ht h12 h13 hb h38 a8 (kC _ _ (by omega)) (kC _ _ (by omega)) (kR _ _ (by omega)) hS (fun c k h1 h2 => kC _ _ (by omega)) (Tape_keep (fun k => kC _ _ (by omega)) (kC _ _ (by omega)) (fun k => kR _ _ (by omega)) (kR _ _ (by omega)) a4) (Time_keep (kC _ _ (by omega)) (kR _ _ (by omega)) a5) (Fault_keep (kC _ _ (by omega)) (kC _ _ (by omega)) (kR _ _ (by omega)) (kR _ _ (by omega)) a6) (Kept_keep (fun k => kC _ _ (by omega)) a7) (Says_keep hS (fun c k h1 h2 => kC _ _ (by omega)) (kR _ _ (by omega)) (fun c k h1 h2 => kR _ _ (by omega)) ⟨m, m1, m2, m3, m4⟩) ?_
    intro y hy
    by_cases e : y = x
    · subst e
      refine Or.inr ⟨up_eq, m, m1, ?_, ?_, ?_⟩
      · rw [up_k (by omega), ycp_s, if_pos rfl]
      · rw [col6_c (by omega), up_eq]
      · intro n hn
        have k := m4 n hn
        have j := ycp_j (C := C) (s := 50 + 7 * y) (f := 42) hn
        have u : ∀ c, col6 (up R 132 y (m : Int)) 133 116 (40 * y) 0 m (133 + c) (40 * y + n) = if c ≤ 5 then R (116 + c) n else up R 132 y (m : Int) (133 + c) (40 * y + n) := by
          intro c
          unfold col6
          by_cases hc : c ≤ 5
          · rw [if_pos (by omega), if_pos hc, up_c (by omega), show 133 + c - 133 = c from by omega, show 0 + (40 * y + n - 40 * y) = n from by omega]
          · rw [if_neg (by omega), if_neg hc]
        have u0 := u 0; have u1 := u 1; have u2 := u 2; have u3 := u 3; have u4 := u 4; have u5 := u 5
        rw [if_pos (by omega)] at u0 u1 u2 u3 u4 u5
        simp only [Nat.reduceAdd] at u0 u1 u2 u3 u4 u5
        rw [u0, u1, u2, u3, u4, u5, keep_nP hS, keep_nF hS, kR 86 _ (by omega)]
        simp only [keep_canS hS, keep_isB hS]
        simp only [Nat.zero_add] at k
        rw [up_c (by omega), up_c (by omega), up_c (by omega), up_c (by omega), up_c (by omega), j.1, j.2.1, j.2.2.1, j.2.2.2.1, j.2.2.2.2]
        obtain ⟨k1, k2, k3, k4, k5, k6, k7⟩ := k
        refine ⟨k1, k2, k3, k4, k5, k6, fun w hw => ?_⟩
        rw [← k7 w hw]
        have hw2 : 64 * nwd (nF R b) ≤ 256 := by have := (pow_wd (num_F a8.1).2.2).2.1; omega
        unfold sb
        rw [up_c (by omega), ycp_6 (by omega)]
    · have fC : ∀ c k, 50 + 7 * y ≤ c → c ≤ 50 + 7 * y + 6 → up (ycp C (50 + 7 * x) 42 m) (50 + 7 * x) 1 1 c k = C c k := fun c k h1 h2 => kC _ _ (by omega)
      have f132 : col6 (up R 132 x (m : Int)) 133 116 (40 * x) 0 m 132 y = R 132 y := by rw [col6_c (by omega), up_k e]
      rcases a10 y hy with ⟨h1, h2⟩ | ⟨h1, m', h2, h3, h4, h5⟩
      · exact Or.inl ⟨(fC _ _ (by omega) (by omega)).trans h1, f132.trans h2⟩
      · refine Or.inr ⟨(fC _ _ (by omega) (by omega)).trans h1, m', h2, (fC _ _ (by omega) (by omega)).trans h3, f132.trans h4, ?_⟩
        intro n hn
        have k := h5 n hn
        have u : ∀ c, 133 ≤ c → col6 (up R 132 x (m : Int)) 133 116 (40 * x) 0 m c (40 * y + n) = R c (40 * y + n) := fun c hc => by rw [col6_k (by omega), up_c (by omega)]
        rw [u 133 (by omega), u 134 (by omega), u 135 (by omega), u 136 (by omega), u 137 (by omega), u 138 (by omega), keep_nP hS, keep_nF hS, kR 86 _ (by omega)]
        simp only [keep_canS hS, keep_isB hS, sb]
        simp only [sb] at k
        simp only [fC _ _ (show 50 + 7 * y ≤ 50 + 7 * y + 1 by omega) (by omega), fC _ _ (show 50 + 7 * y ≤ 50 + 7 * y + 2 by omega) (by omega), fC _ _ (show 50 + 7 * y ≤ 50 + 7 * y + 3 by omega) (by omega), fC _ _ (show 50 + 7 * y ≤ 50 + 7 * y + 4 by omega) (by omega), fC _ _ (show 50 + 7 * y ≤ 50 + 7 * y + 5 by omega) (by omega), fC _ _ (show 50 + 7 * y ≤ 50 + 7 * y + 6 by omega) (Nat.le_refl _)]
        exact k
theorem op_back {C R : Mem} (h : Inv C R) {x : Int} (hx : n32 x = x) : ∃ v C' R', X_back x C = some (v, C') ∧ M_back x R = some (v, R') ∧ Inv C' R' := by
  have h0 := h
  obtain ⟨t, b, ht, h12, h13, hb, h38, a4, a5, a6, a7, a8, a9, a10⟩ := h
  have hx2 := ineg_lt hx
  unfold X_back M_back
  rw [hx, M_isIn_eq _ _ _ _ hx rfl rfl, bind_some']
  by_cases q : 0 ≤ x ∧ x < 3
  · obtain ⟨x, rfl⟩ : ∃ y : Nat, x = (y : Int) := ⟨x.toNat, by omega⟩
    have hx3 : x < 3 := by omega
    have hY : isY (50 + 7 * x) := by unfold isY; omega
    rw [if_pos q.1, if_pos q.2, if_pos (by omega : 0 ≤ (x : Int) ∧ (x : Int) ≤ 2), if_pos nz1, chk_pos (by omega), chk_pos (by omega), lt1_eq, tn_nat, chk_pos (by omega), chk_pos (by omega), lt1_eq]
    rcases a10 x hx3 with ⟨h1, h2⟩ | ⟨h1, m, m1, m2, m3, m4⟩
    · rw [h1, h2, if_pos (show n32 0 = 0 by decide), if_pos (by decide)]
      exact ⟨_, _, _, rfl, rfl, h0⟩
    · rw [h1, m3, if_neg nz1, n32_nat (by omega), if_neg (by omega), bind_some', bind_some', if_neg (by decide), if_neg (by decide)]
      rw [Y_copy_eq qY42 hY (by omega) m2 m1 (fun i hi => by obtain ⟨-, -, ⟨k1, k2⟩, -⟩ := m4 i hi; rw [k1]; exact k2), bind_some', lt1_eq]
      have hr := M_back_loop (R := up R 81 57 (m : Int)) hx3 m1 up_eq (fun i hi => by rw [up_c (by omega)]; exact (m4 i hi).2.2.2.2.2.1) (fun i hi => by rw [up_c (by omega)]; exact (m4 i hi).2.2.1.2)
      rw [hr, bind_some', col6_c (by omega), up_eq, ycp_s, if_pos rfl]
      refine ⟨_, _, _, rfl, rfl, ?_⟩
      have hS : SameR R (col6 (up R 81 57 (m : Int)) 116 133 0 (40 * x) m) := SameR_of (fun c k h1 h2 h3 => by rw [col6_c (by omega), up_c (by omega)])
      have kC : ∀ c k, c < 42 ∨ 48 < c → ycp C 42 (50 + 7 * x) m c k = C c k := fun c k h => ycp_c h
      have kR : ∀ c k, c < 116 ∨ 121 < c → ¬ (c = 81 ∧ k = 57) → col6 (up R 81 57 (m : Int)) 116 133 0 (40 * x) m c k = R c k := fun c k h h2 => by rw [col6_c (by omega), up_at, if_neg h2]
      refine Inv_gen ht h12 h13 hb h38 a8 (kC _ _ (by omega)) (kC _ _ (by omega)) (kR _ _ (by omega) (by omega)) hS (fun c k h1 h2 => kC _ _ (by omega)) (Tape_keep (fun k => kC _ _ (by omega)) (kC _ _ (by omega)) (fun k => kR _ _ (by omega) (by omega)) (kR _ _ (by omega) (by omega)) a4) (Time_keep (kC _ _ (by omega)) (kR _ _ (by omega) (by omega)) a5) (Fault_keep (kC _ _ (by omega)) (kC _ _ (by omega)) (kR _ _ (by omega) (by omega)) (kR _ _ (by omega) (by omega)) a6) (Kept_keep (fun k => kC _ _ (by omega)) a7) ⟨m, m1, ?_, ?_, ?_⟩ (Box_keep hS (fun c k h1 h2 => kC _ _ (by omega)) (fun c k h1 h2 => kR _ _ (by omega) (by omega)) a10)
      · rw [ycp_s, if_pos rfl]
      · rw [col6_c (by omega), up_eq]
      · intro n hn
        have k := m4 n hn
        have j := ycp_j (C := C) (s := 42) (f := 50 + 7 * x) hn
        have u : ∀ c, col6 (up R 81 57 (m : Int)) 116 133 0 (40 * x) m (116 + c) (0 + n) = if c ≤ 5 then R (133 + c) (40 * x + n) else up R 81 57 (m : Int) (116 + c) (0 + n) := by
          intro c
          unfold col6
          by_cases hc : c ≤ 5
          · rw [if_pos (by omega), if_pos hc, up_c (by omega), show 116 + c - 116 = c from by omega, show 40 * x + (0 + n - 0) = 40 * x + n from by omega]
          · rw [if_neg (by omega), if_neg hc]
        have u0 := u 0; have u1 := u 1; have u2 := u 2; have u3 := u 3; have u4 := u 4; have u5 := u 5
        rw [if_pos (by omega)] at u0 u1 u2 u3 u4 u5
        simp only [Nat.reduceAdd] at u0 u1 u2 u3 u4 u5
        rw [u0, u1, u2, u3, u4, u5, keep_nP hS, keep_nF hS, kR 86 _ (by omega) (by omega)]
        simp only [keep_canS hS, keep_isB hS]
        rw [j.1, j.2.1, j.2.2.1, j.2.2.2.1, j.2.2.2.2]
        obtain ⟨k1, k2, k3, k4, k5, k6, k7⟩ := k
        refine ⟨k1, k2, k3, k4, k5, k6, fun w hw => ?_⟩
        rw [← k7 w hw]
        have hw2 : 64 * nwd (nF R b) ≤ 256 := by have := (pow_wd (num_F a8.1).2.2).2.1; omega
        unfold sb
        rw [ycp_6 (by omega)]
  · rw [if_neg (by omega : ¬ (0 ≤ x ∧ x ≤ 2)), if_neg nz0, bind_some', if_pos rfl]
    by_cases q1 : 0 ≤ x
    · rw [if_pos q1, if_neg (by omega), bind_some', if_pos rfl]
      exact ⟨_, _, _, rfl, rfl, h0⟩
    · rw [if_neg q1, bind_some', if_pos rfl]
      exact ⟨_, _, _, rfl, rfl, h0⟩
