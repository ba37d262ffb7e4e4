/-! ===== what counts, what is left ===== -/
/-- the j-th of those of the first n for which p holds -/
def clG (p : Nat → Bool) : Nat → Nat → Nat
  | 0, _ => 0
  | n + 1, j => if p n = true ∧ j = cnt p n then n else clG p n j
theorem clG_s {p : Nat → Bool} {n j : Nat} (h : j < cnt p n) : clG p (n + 1) j = clG p n j := by
  show (if p n = true ∧ j = cnt p n then n else clG p n j) = _
  rw [if_neg (by omega)]
theorem clG_n {p : Nat → Bool} {n : Nat} (h : p n = true) : clG p (n + 1) (cnt p n) = n := by
  show (if p n = true ∧ cnt p n = cnt p n then n else clG p n (cnt p n)) = _
  rw [if_pos ⟨h, rfl⟩]
theorem cnt_lt {p : Nat → Bool} {n m : Nat} (hnm : n < m) (h : p n = true) : cnt p n < cnt p m := by
  have h1 : cnt p (n + 1) ≤ cnt p m := by
    obtain ⟨d, rfl⟩ := Nat.exists_eq_add_of_le (show n + 1 ≤ m from hnm)
    rw [cnt_add p (n + 1)]
    omega
  have h2 : cnt p (n + 1) = cnt p n + 1 := by
    show cnt p n + (if p n then 1 else 0) = _
    rw [if_pos h]
  omega
theorem cnt_le_of {p : Nat → Bool} {n m : Nat} (hnm : n ≤ m) : cnt p n ≤ cnt p m := by
  obtain ⟨d, rfl⟩ := Nat.exists_eq_add_of_le hnm
  rw [cnt_add p n]
  omega
theorem clG_get {p : Nat → Bool} {n : Nat} (h : p n = true) : ∀ {m : Nat}, n < m → clG p m (cnt p n) = n
  | 0, hn => by omega
  | m + 1, hn => by
    by_cases e : n = m
    · subst e; exact clG_n h
    · rw [clG_s (cnt_lt (by omega) h)]
      exact clG_get h (by omega)
theorem clG_mem {p : Nat → Bool} : ∀ {m j : Nat}, j < cnt p m → clG p m j < m ∧ p (clG p m j) = true ∧ cnt p (clG p m j) = j
  | 0, j, h => by
    have : cnt p 0 = 0 := rfl
    omega
  | m + 1, j, h => by
    by_cases q : j < cnt p m
    · rw [clG_s q]
      have := clG_mem q
      exact ⟨by omega, this.2⟩
    · have h2 : cnt p (m + 1) = cnt p m + (if p m then 1 else 0) := rfl
      cases hp : p m with
      | false => rw [hp] at h2; simp at h2; omega
      | true =>
        rw [hp, if_pos rfl] at h2
        have : j = cnt p m := by omega
        subst this
        rw [clG_n hp]
        exact ⟨by omega, hp, rfl⟩
def nS (R : Mem) : Nat := (R 81 57).toNat
/-- a saying counts, as known at k -/
def ct (R : Mem) (k : Int) (n : Nat) : Bool := decide (R 118 n ≤ k) && !(decide (0 ≤ R 119 n) && decide (R 119 n ≤ k))
def sB (R : Mem) (b n w : Nat) : Bool := canS R b (R 116 n) (R 117 n) (R 120 n) (R 121 n) w
def lfB (R : Mem) (b : Nat) (k : Int) (w : Nat) : Bool := isB R w && allB (fun n => !ct R k n || sB R b n w) (nS R)
def KnR (t b : Nat) (k : Int) (C R : Mem) : Prop := C 71 0 = (t : Int) ∧ C 71 1 = 42 ∧ C 71 3 = ((cnt (ct R k) (nS R) : Nat) : Int) ∧ (∀ j, j < cnt (ct R k) (nS R) → C 72 j = ((clG (ct R k) (nS R) j : Nat) : Int)) ∧ (∀ w, w < 64 * nwd (nF R b) → sb C 73 0 w = lfB R b k w) ∧ C 71 5 = ((cnt (lfB R b k) (2 ^ nF R b) : Nat) : Int)
section LOOK
variable {t b : Nat} {C R : Mem}
theorem Y_counts_eq {m : Nat} {M : Mem} (hS : SayR 42 116 117 118 119 120 121 0 m t b C R) (hM : ∀ c k, c ≤ 70 → M c k = C c k) {n : Nat} (hn : n < m) (hm : m ≤ 40) {k : Int} (hk : n32 k = k) : Y_counts 42 (n : Int) k M = some (b1 (ct R k n)) := by
  obtain ⟨-, -, -, ⟨k1, k2, k3⟩, ⟨k4, k5, k6⟩, -, -⟩ := hS n hn
  rw [Nat.zero_add] at k1 k2 k3 k4 k5 k6
  unfold Y_counts
  rw [chk_pos (by omega), tn_nat, hM _ _ (by omega), hM _ _ (by omega), k1, k4, hk, n32_of (by omega) (by omega), n32_of (by omega) (by omega)]
  unfold ct
  by_cases q : R 119 n = -1
  · rw [if_neg (by omega), bind_some', if_neg (by decide), bind_some', decide_eq_false (show ¬ 0 ≤ R 119 n by omega)]
    by_cases q2 : R 118 n ≤ k
    · rw [if_pos ⟨q2, by decide⟩, decide_eq_true q2]; rfl
    · rw [if_neg (fun z => q2 z.1), decide_eq_false q2]; rfl
  · rw [if_pos q, decide_eq_true (show 0 ≤ R 119 n by omega)]
    by_cases q3 : R 119 n ≤ k
    · rw [if_pos q3, bind_some', if_pos rfl, bind_some', if_neg (fun z => absurd z.2 (by decide)), decide_eq_true q3]
      cases decide (R 118 n ≤ k) <;> rfl
    · rw [if_neg q3, bind_some', if_neg (by decide), bind_some', decide_eq_false q3]
      by_cases q2 : R 118 n ≤ k
      · rw [if_pos ⟨q2, by decide⟩, decide_eq_true q2]; rfl
      · rw [if_neg (fun z => q2 z.1), decide_eq_false q2]; rfl
theorem look_in (ht : isT t) (h : NumR t b C R) (hW : WdR t b C R) {M : Mem} (hM : ∀ c k, c ≤ 70 → M c k = C c k) (h0 : M 71 0 = (t : Int)) (h1 : M 71 1 = 42) {n : Nat} (hn : n < 40) : it (W_look_b90 (n : Int)) FUEL (0, M) = some (wup M 73 0 (nwd (nF R b)) (fun w => jand (M 73 w) (M 48 (4 * n + w)))) := by
  have hF := num_F h
  have h3 := pow_wd hF.2.2
  have ht2 : t ≤ 15 := by unfold isT at ht; omega
  refine it_for (fun j => ((j : Int), wup M 73 0 j (fun w => jand (M 73 w) (M 48 (4 * n + w))))) (nwd (nF R b)) (by unfold FUEL; omega) (by rw [wup_0]; rfl) ?_ ?_
  · intro j hj
    unfold W_look_b90
    dsimp only
    rw [wup_c (show 71 ≠ 73 by decide), h0, chk_pos (isTI_of rfl ht), lt1_eq, tn_nat, wup_c (show t ≠ 73 by omega), hM _ _ (by omega), show C t 6 = (nwd (nF R b) : Int) from hW, n32_nat (by omega), n32_nat (by omega), if_pos (by omega), chk_pos (by omega), wup_c (show 71 ≠ 73 by decide), h1, chk_pos (show (42 : Int) = ((42 : Nat) : Int) from rfl), chk_pos (by omega), tn_nat, tn_4, wup_c (show 48 ≠ 73 by decide), wup_out (by omega), lt1_eq, lt1_eq]
    have e := wup_s (M := M) (c := 73) (o := 0) (i := j) (f := fun w => jand (M 73 w) (M 48 (4 * n + w))) (v := jand (M 73 j) (M 48 (4 * n + j))) rfl
    rw [Nat.zero_add] at e
    rw [e]
    rfl
  · unfold W_look_b90
    dsimp only
    rw [wup_c (show 71 ≠ 73 by decide), h0, chk_pos (isTI_of rfl ht), lt1_eq, tn_nat, wup_c (show t ≠ 73 by omega), hM _ _ (by omega), show C t 6 = (nwd (nF R b) : Int) from hW, if_neg (by omega)]
theorem look_eq (ht : isT t) (hT : Town t b C R) (hS : Says t b C R) {k : Int} (hk : n32 k = k) : Z (W_look t k C) (fun C' => KnR t b k C' R ∧ ∀ c k, c ≤ 70 → C' c k = C c k) := by
  obtain ⟨m, m1, m2, m3, m4⟩ := hS
  obtain ⟨h, hW, -, hTi, -, hB, -, hA, hLw⟩ := hT
  have hF := num_F h
  have h3 := pow_wd hF.2.2
  have ht2 : t ≤ 15 := by unfold isT at ht; omega
  have eW : C t 6 = (nwd (nF R b) : Int) := hW
  have eS : nS R = m := by unfold nS; rw [m3]; rfl
  unfold W_look
  rw [lt1_eq, lt1_eq, lt1_eq, up_k (show 0 ≠ 3 by decide), up_k (show 0 ≠ 1 by decide), up_eq, chk_pos (isTI_of rfl ht), lt1_eq, tn_nat, up_c (by omega), up_c (by omega), up_c (by omega), eW, chk_pos (by omega), lt1_eq]
  have e0 := cpy_eq (M := up (up (up C 71 0 (t : Int)) 71 1 ((42 : Nat) : Int)) 71 3 0) (c := t + 8) (c' := 73) (n := nwd (nF R b)) (x := (nwd (nF R b) : Int)) (g := C (t + 8)) rfl (fun i => by simp (disch := omega) only [up_c])
  rw [e0]
  generalize hM : wup (up (up (up C 71 0 (t : Int)) 71 1 ((42 : Nat) : Int)) 71 3 0) 73 0 (nwd (nF R b)) (C (t + 8)) = M
  have f0 : M 71 0 = (t : Int) := by rw [← hM, wup_c (by decide), up_k (by decide), up_k (by decide), up_eq]
  have f1 : M 71 1 = 42 := by rw [← hM, wup_c (by decide), up_k (by decide), up_eq]; rfl
  have f3 : M 71 3 = 0 := by rw [← hM, wup_c (by decide), up_eq]
  have fc : ∀ c k, c ≤ 70 → M c k = C c k := fun c k hc => by rw [← hM, wup_c (by omega), up_c (by omega), up_c (by omega), up_c (by omega)]
  have fb : ∀ w, w < 64 * nwd (nF R b) → sb M 73 0 w = isB R w := fun w hw => by
    rw [← hM, sb_wup hw, ← hB.2.2 w hw]
    unfold sb
    rw [Nat.zero_add]
  clear hM e0
  rw [Z_bind_iff]
  refine it_Z (fun i st => st.1 = (i : Int) ∧ (st.2 71 0 = (t : Int) ∧ st.2 71 1 = 42 ∧ st.2 71 3 = ((cnt (ct R k) i : Nat) : Int)) ∧ (∀ j, j < cnt (ct R k) i → st.2 72 j = ((clG (ct R k) i j : Nat) : Int)) ∧ (∀ w, w < 64 * nwd (nF R b) → sb st.2 73 0 w = (isB R w && allB (fun n => !ct R k n || sB R b n w) i)) ∧ ∀ c k, c ≤ 70 → st.2 c k = C c k) m (by unfold FUEL; omega) ⟨rfl, ⟨f0, f1, f3⟩, fun j hj => by have : cnt (ct R k) 0 = 0 := rfl; omega, fun w hw => by rw [fb w hw]; unfold allB anyB; simp, fc⟩ ?_ ?_
  · rintro i ⟨l, M'⟩ hi ⟨e, ⟨g0, g1, g3⟩, gj, gb, gc⟩
    dsimp only at e g0 g1 g3 gj gb gc
    subst e
    have hci := cnt_le (ct R k) i
    unfold W_look_b41
    dsimp only
    rw [g1, chk_pos (show (42 : Int) = ((42 : Nat) : Int) from rfl), gc _ _ (by omega), m2, n32_nat (by omega), n32_nat (by omega), if_pos (by omega), Y_counts_eq m4 gc hi m1 hk, bind_some']
    cases hc : ct R k i with
    | false =>
      rw [if_neg (by decide), bind_some', lt1_eq]
      have ec : cnt (ct R k) (i + 1) = cnt (ct R k) i := by show _ + (if ct R k i then 1 else 0) = _; rw [hc]; rfl
      refine Z_of (Or.inl ⟨_, rfl, rfl, ⟨g0, g1, by rw [ec]; exact g3⟩, fun j hj => ?_, fun w hw => ?_, gc⟩)
      · rw [ec] at hj
        rw [clG_s hj]
        exact gj j hj
      · rw [allB_succ, hc, gb w hw]
        simp
    | true =>
      have ec : cnt (ct R k) (i + 1) = cnt (ct R k) i + 1 := by show _ + (if ct R k i then 1 else 0) = _; rw [hc]; rfl
      rw [if_pos (by decide), g3, chk_pos (by omega), lt1_eq, tn_nat, lt1_eq, up_c (by decide), g3]
      have lk := look_in (M := up (up M' 72 (cnt (ct R k) i) (i : Int)) 71 3 (((cnt (ct R k) i : Nat) : Int) + 1)) ht h hW (fun c k hc => by rw [up_c (by omega), up_c (by omega)]; exact gc c k hc) (by rw [up_k (by decide), up_c (by decide)]; exact g0) (by rw [up_k (by decide), up_c (by decide)]; exact g1) (n := i) (by omega)
      rw [lk, bind_some', bind_some', lt1_eq]
      refine Z_of (Or.inl ⟨_, rfl, rfl, ⟨?_, ?_, ?_⟩, fun j hj => ?_, fun w hw => ?_, fun c k hc => ?_⟩)
      · dsimp only; rw [wup_c (by decide), up_k (by decide), up_c (by decide)]; exact g0
      · dsimp only; rw [wup_c (by decide), up_k (by decide), up_c (by decide)]; exact g1
      · dsimp only; rw [wup_c (by decide), up_eq, ec]; rfl
      · dsimp only
        rw [wup_c (by decide), up_c (by decide)]
        by_cases q : j = cnt (ct R k) i
        · subst q; rw [up_eq, clG_n hc]
        · rw [up_k q, clG_s (by omega)]
          exact gj j (by omega)
      · dsimp only
        rw [sb_wup hw, qb_and, up_c (by decide), up_c (by decide), up_c (by decide), up_c (by decide), allB_succ, hc]
        have e1 := gb w hw
        unfold sb at e1
        rw [Nat.zero_add] at e1
        obtain ⟨-, -, -, -, -, -, k7⟩ := m4 i hi
        have e2 := k7 w hw
        unfold sb at e2
        rw [Nat.zero_add] at e2
        rw [e1, gc 48 _ (by omega), show C 48 (4 * i + w / 64) = C (42 + 6) (4 * i + w / 64) from rfl, e2]
        unfold sB
        cases isB R w <;> simp
      · dsimp only
        rw [wup_c (by omega), up_c (by omega), up_c (by omega)]
        exact gc c k hc
  · rintro ⟨l, M'⟩ ⟨e, ⟨g0, g1, g3⟩, gj, gb, gc⟩
    dsimp only at e g0 g1 g3 gj gb gc
    subst e
    unfold W_look_b41
    dsimp only
    rw [g1, chk_pos (show (42 : Int) = ((42 : Nat) : Int) from rfl), gc _ _ (by omega), m2, if_neg (by omega)]
    refine Z_of ⟨_, rfl, ?_⟩
    rw [g0, chk_pos (isTI_of rfl ht), lt1_eq, tn_nat, gc _ _ (by omega), eW]
    have e5 := X_sizeOfSet_eq (c := 73) (o := 0) (n := nwd (nF R b)) M' aJ73 (by omega) (by omega)
    rw [show ((0 : Nat) : Int) = 0 from rfl] at e5
    rw [e5, bind_some', lt1_eq]
    have el : ∀ w, w < 64 * nwd (nF R b) → sb M' 73 0 w = lfB R b k w := fun w hw => by rw [gb w hw]; unfold lfB; rw [eS]
    have e6 : cnt (sb M' 73 0) (64 * nwd (nF R b)) = cnt (lfB R b k) (2 ^ nF R b) := by
      rw [cnt_congr el, cnt_cut h3.1 (fun i q1 q2 => ?_)]
      unfold lfB isB
      rw [hB.2.1 i q1 (by omega)]
      rfl
    refine Z_of ⟨⟨?_, ?_, ?_, ?_, ?_, ?_⟩, ?_⟩
    · rw [up_k (by decide)]; exact g0
    · rw [up_k (by decide)]; exact g1
    · rw [up_k (by decide), eS]; exact g3
    · rw [eS]; intro j hj; rw [up_c (by decide)]; exact gj j hj
    · intro w hw
      rw [← el w hw]
      unfold sb
      rw [up_c (by decide)]
    · rw [up_eq, e6]
    · intro c k hc
      rw [up_c (by omega)]
      exact gc c k hc
end LOOK
