/-! ===== operations: is answers fault about end later untell feed ===== -/
theorem isTI_of {x : Int} {t : Nat} (h : x = (t : Int)) (ht : isT t) : isTI x := by
  subst h
  rcases ht with rfl | rfl
  · exact Or.inl rfl
  · exact Or.inr rfl
section OPS
variable {C R : Mem}
theorem op_is (h : Inv C R) {r w : Int} (hr : n32 r = r) (hw : n32 w = w) : ∃ v, X_is r w C = some v ∧ M_is r w R = some v := by
  obtain ⟨t, b, ht, h12, -, hb, h38, -, -, -, -, ⟨hN, -, -, -, -, hB, hRow, -, -⟩, -, -⟩ := h
  have h1 := num_F hN
  have h2 := two_pow8 h1.2.2
  have h3 := num_R hN
  unfold X_is M_is
  rw [h12, chk_pos (isTI_of rfl ht), lt1_eq, tn_nat, M_isRow_eq hb h38 hN hr, bind_some']
  rcases T_canBe_eq ht hN hB hr hw with ⟨k, e⟩ | ⟨k, e⟩
  · rw [e, bind_some', if_neg (by decide), if_pos k.1, if_pos (by decide)]
    rcases M_isWorld_eq hb h38 hN hB hw with ⟨k2, e2⟩ | ⟨k2, e2⟩
    · rw [e2, bind_some', if_neg (by decide), bind_some', if_neg (by decide)]
      obtain ⟨⟨k3, k4⟩, k5, k6, k7⟩ := k
      obtain ⟨r, rfl⟩ : ∃ q : Nat, r = (q : Int) := ⟨r.toNat, by omega⟩
      obtain ⟨w, rfl⟩ : ∃ q : Nat, w = (q : Int) := ⟨w.toNat, by omega⟩
      change isB R w = true at k7
      rw [T_isSo_eq ht hN hRow (by omega) (by omega) k7, bind_some']
      unfold M_spot
      rw [bind_some', chk_pos (by omega), tn_256]
      obtain ⟨k8, -⟩ := hRow r w (by omega) (by omega) k7
      unfold rowI
      rcases k8 with e | e <;> rw [e] <;> exact ⟨_, rfl, rfl⟩
    · exact absurd k.2 k2
  · rw [e, bind_some', if_pos (by decide)]
    by_cases q : 0 ≤ r ∧ r < (nR R b : Int)
    · rw [if_pos q, if_pos (by decide)]
      rcases M_isWorld_eq hb h38 hN hB hw with ⟨k2, e2⟩ | ⟨k2, e2⟩
      · exact absurd ⟨q, k2⟩ k
      · rw [e2]; exact ⟨_, rfl, rfl⟩
    · rw [if_neg q]; exact ⟨_, rfl, rfl⟩
theorem op_answers (h : Inv C R) {p r w : Int} (hp : n32 p = p) (hr : n32 r = r) (hw : n32 w = w) : ∃ v, X_answers p r w C = some v ∧ M_answers p r w R = some v := by
  obtain ⟨t, b, ht, h12, -, hb, h38, -, -, -, -, ⟨hN, -, -, -, -, hB, hRow, hA, -⟩, -, -⟩ := h
  have h1 := num_F hN
  have h2 := two_pow8 h1.2.2
  have h3 := num_R hN
  have h4 := num_P hN
  unfold X_answers M_answers
  rw [h12, chk_pos (isTI_of rfl ht), lt1_eq, tn_nat, M_isPerson_eq hb h38 hN hp, bind_some', T_hasPerson_eq hN hp, bind_some']
  by_cases q : 0 ≤ p ∧ p < (nP R b : Int)
  · rw [if_pos q, if_pos (by decide), if_pos (by decide), M_isRow_eq hb h38 hN hr, bind_some']
    rcases T_canBe_eq ht hN hB hr hw with ⟨k, e⟩ | ⟨k, e⟩
    · rw [e, bind_some', if_neg (by decide), bind_some', if_neg (by decide), if_pos k.1, if_pos (by decide)]
      rcases M_isWorld_eq hb h38 hN hB hw with ⟨k2, e2⟩ | ⟨k2, e2⟩
      · rw [e2, bind_some', if_pos (by decide), bind_some', if_pos (by decide)]
        obtain ⟨⟨k3, k4⟩, k5, k6, k7⟩ := k
        obtain ⟨r, rfl⟩ : ∃ q : Nat, r = (q : Int) := ⟨r.toNat, by omega⟩
        obtain ⟨w, rfl⟩ : ∃ q : Nat, w = (q : Int) := ⟨w.toNat, by omega⟩
        change isB R w = true at k7
        obtain ⟨p, rfl⟩ : ∃ q : Nat, p = (q : Int) := ⟨p.toNat, by omega⟩
        rw [T_answer_eq ht hN hA (by omega) (by omega) (by omega) k7, M_answerAt_eq (by omega) (by omega) (by omega)]
        exact ⟨_, rfl, rfl⟩
      · exact absurd k.2 k2
    · rw [e, bind_some', if_pos (by decide)]
      by_cases q : 0 ≤ r ∧ r < (nR R b : Int)
      · rw [if_pos q, if_pos (by decide)]
        rcases M_isWorld_eq hb h38 hN hB hw with ⟨k2, e2⟩ | ⟨k2, e2⟩
        · exact absurd ⟨q, k2⟩ k
        · rw [e2]; exact ⟨_, rfl, rfl⟩
      · rw [if_neg q]; exact ⟨_, rfl, rfl⟩
  · rw [if_neg q]; exact ⟨_, rfl, rfl⟩
theorem op_fault (h : Inv C R) {x : Int} : ∃ v, X_fault x C = some v ∧ M_fault x R = some v := by
  obtain ⟨t, b, ht, h12, -, hb, h38, -, -, ⟨h1, h2⟩, -, -, -, -⟩ := h
  unfold X_fault M_fault
  rw [h1, h2]
  by_cases e : n32 x = 0
  · rw [if_pos e]; exact ⟨_, rfl, rfl⟩
  · rw [if_neg e]
    by_cases e : n32 x = 1
    · rw [if_pos e]; exact ⟨_, rfl, rfl⟩
    · rw [if_neg e]; exact ⟨_, rfl, rfl⟩
theorem M_baseMany_eq {t b : Nat} (hb : b < 2) (h38 : R 81 38 = (b : Int)) (h : NumR t b C R) (hB : BaseR t b C R) : M_baseMany R = some ((cnt (isB R) (2 ^ nF R b) : Nat) : Int) := by
  have h1 := num_F h
  have h2 := two_pow8 h1.2.2
  have L := it_for (body := M_baseMany_b4 R) (a := (0, 0)) (b := ((cnt (isB R) (2 ^ nF R b) : Nat) : Int)) (fun i => (((cnt (isB R) i : Nat) : Int), (i : Int))) (2 ^ nF R b) (by unfold FUEL; omega) rfl ?_ ?_
  · unfold M_baseMany
    rw [L]; rfl
  · intro i hi
    unfold M_baseMany_b4
    dsimp only
    rw [M_worldMany_eq hb h38 h, bind_some', n32_nat (a := i) (by omega), n32_nat (by omega), if_pos (by omega), chk_pos (by omega), tn_nat]
    show _ = some (Sum.inl (((cnt (isB R) i + (if isB R i = true then 1 else 0) : Nat) : Int), _))
    unfold isB
    rcases hB.1 i (by omega) with e | e <;> rw [e] <;> rfl
  · unfold M_baseMany_b4
    dsimp only
    rw [M_worldMany_eq hb h38 h, bind_some', if_neg (by omega)]
theorem T_size_eq {t b : Nat} (ht : isT t) (h : NumR t b C R) (hW : WdR t b C R) (hB : BaseR t b C R) : T_size t C = some ((cnt (isB R) (2 ^ nF R b) : Nat) : Int) := by
  have h1 := num_F h
  have h2 := pow_wd h1.2.2
  unfold T_size
  have e := X_sizeOfSet_eq (c := t + 8) (o := 0) (n := nwd (nF R b)) C (aJ1 ht).1 (by omega) (by omega)
  rw [show C t 6 = (nwd (nF R b) : Int) from hW]
  rw [show ((0 : Nat) : Int) = 0 from rfl] at e
  rw [e, bind_some', cnt_congr (fun i hi => hB.2.2 i hi), cnt_cut h2.1 (fun i h3 h4 => ?_)]
  unfold isB
  rw [hB.2.1 i h3 (by omega)]
  rfl
theorem op_about (h : Inv C R) {x : Int} : ∃ v, X_about x C = some v ∧ M_about x R = some v := by
  obtain ⟨t, b, ht, h12, -, hb, h38, ⟨n, a1, a2, -⟩, ⟨a3, -⟩, -, -, ⟨hN, hW, -, -, -, hB, -⟩, ⟨m, -, a4, a5, -⟩, -⟩ := h
  have c0 : chk (isTI (C 1 2)) = fun e : Option Int => e := by funext e; exact chk_pos (isTI_of h12 ht)
  have c1 : chk (0 ≤ R 81 38 ∧ R 81 38 < 2) = fun e : Option Int => e := by funext e; exact chk_pos (by omega)
  unfold X_about M_about M_factMany
  simp only [c0, c1, lt1_eq]
  rw [h12, h38, tn_nat, tn_nat, T_size_eq ht hN hW hB, M_baseMany_eq hb h38 hN hB, M_personMany_eq hb h38 hN, M_rowMany_eq hb h38 hN, (num_F hN).1, (num_F hN).2.1, (num_P hN).2.1, (num_R hN).2.1, (num_T hN).1, (num_T hN).2.1, (num_W hN).1, (num_W hN).2.1, a1, a2, a3, a4, a5]
  obtain ⟨-, -, -, -, -, ⟨e5, -⟩⟩ := hN
  rw [e5]
  simp only [bind_some']
  repeat' first
    | exact ⟨_, rfl, rfl⟩
    | split
theorem Town_tw {t b : Nat} {C' : Mem} (h1 : ∀ c k, t ≤ c → c ≤ t + 11 → C' c k = C c k) (hi : Town t b C R) : Town t b C' R :=
  Town_keep ⟨fun _ => rfl, fun _ => rfl, fun _ => rfl, fun _ => rfl, fun _ => rfl, fun _ => rfl, fun _ => rfl, fun _ => rfl, fun _ => rfl, fun _ => rfl, fun _ => rfl, fun _ => rfl, fun _ => rfl, fun _ => rfl, fun _ => rfl, fun _ => rfl, rfl, rfl, fun _ => rfl, fun _ => rfl, fun _ => rfl⟩ h1 hi
end OPS
section GEN
variable {C C' R R' : Mem}
/-- Inv after a change of some parts -/
theorem Inv_gen {t b : Nat} (ht : isT t) (h12 : C 1 2 = (t : Int)) (h13 : C 1 3 = ((18 - t : Nat) : Int)) (hb : b < 2) (h38 : R 81 38 = (b : Int)) (hT : Town t b C R) (e12 : C' 1 2 = C 1 2) (e13 : C' 1 3 = C 1 3) (e38 : R' 81 38 = R 81 38) (hS : SameR R R') (hc : ∀ c k, 3 ≤ c → c ≤ 26 → C' c k = C c k) (h1 : TapeR C' R') (h2 : TimeR C' R') (h3 : FaultR C' R') (h4 : KeptR C') (h5 : Says t b C' R') (h6 : BoxR t b C' R') : Inv C' R' :=
  ⟨t, b, ht, e12.trans h12, e13.trans h13, hb, e38.trans h38, h1, h2, h3, h4, Town_keep hS (fun c k q1 q2 => hc c k (by unfold isT at ht; omega) (by unfold isT at ht; omega)) hT, h5, h6⟩
theorem Tape_keep (hc : ∀ k, C' 2 k = C 2 k) (h1 : C' 1 1 = C 1 1) (hr : ∀ k, R' 82 k = R 82 k) (h2 : R' 81 2 = R 81 2) (h : TapeR C R) : TapeR C' R' := by
  obtain ⟨n, a1, a2, a3, a4⟩ := h
  refine ⟨n, h1.trans a1, h2.trans a2, a3, fun i hi => ?_⟩
  rw [hc, hr]
  exact a4 i hi
theorem Time_keep (h1 : C' 1 12 = C 1 12) (h2 : R' 81 58 = R 81 58) (h : TimeR C R) : TimeR C' R' := by
  unfold TimeR
  rw [h1, h2]
  exact h
theorem Fault_keep (h1 : C' 40 8 = C 40 8) (h2 : C' 40 9 = C 40 9) (h3 : R' 81 4 = R 81 4) (h4 : R' 81 5 = R 81 5) (h : FaultR C R) : FaultR C' R' := by
  unfold FaultR
  rw [h1, h2, h3, h4]
  exact h
theorem Kept_keep (h1 : ∀ k, C' 41 k = C 41 k) (h : KeptR C) : KeptR C' := fun i hi => (h1 i).trans (h i hi)
theorem Says_keep {t b : Nat} (hS : SameR R R') (hc : ∀ c k, 42 ≤ c → c ≤ 48 → C' c k = C c k) (h57 : R' 81 57 = R 81 57) (hr : ∀ c k, 116 ≤ c → c ≤ 121 → R' c k = R c k) (h : Says t b C R) : Says t b C' R' := by
  obtain ⟨m, a1, a2, a3, a4⟩ := h
  exact ⟨m, a1, (hc _ _ (by omega) (by omega)).trans a2, h57.trans a3, SayR_keep hS (fun c k q1 q2 => hc c k (by omega) (by omega)) (fun k => hr _ k (by omega) (by omega)) (fun k => hr _ k (by omega) (by omega)) (fun k => hr _ k (by omega) (by omega)) (fun k => hr _ k (by omega) (by omega)) (fun k => hr _ k (by omega) (by omega)) (fun k => hr _ k (by omega) (by omega)) a4⟩
theorem Box_keep {t b : Nat} (hS : SameR R R') (hc : ∀ c k, 50 ≤ c → c ≤ 70 → C' c k = C c k) (hr : ∀ c k, 132 ≤ c → c ≤ 138 → R' c k = R c k) (h : BoxR t b C R) : BoxR t b C' R' := by
  intro x hx
  rcases h x hx with ⟨h1, h2⟩ | ⟨h1, m', h2, h3, h4, h5⟩
  · exact Or.inl ⟨(hc _ _ (by omega) (by omega)).trans h1, (hr _ _ (by omega) (by omega)).trans h2⟩
  · exact Or.inr ⟨(hc _ _ (by omega) (by omega)).trans h1, m', h2, (hc _ _ (by omega) (by omega)).trans h3, (hr _ _ (by omega) (by omega)).trans h4, SayR_keep hS (fun c k q1 q2 => hc c k (by omega) (by omega)) (fun k => hr _ k (by omega) (by omega)) (fun k => hr _ k (by omega) (by omega)) (fun k => hr _ k (by omega) (by omega)) (fun k => hr _ k (by omega) (by omega)) (fun k => hr _ k (by omega) (by omega)) (fun k => hr _ k (by omega) (by omega)) h5⟩
theorem SameR_of (h : ∀ c k, 84 ≤ c → c ≤ 114 → c ≠ 113 → R' c k = R c k) : SameR R R' := by
  refine ⟨?_, ?_, ?_, ?_, ?_, ?_, ?_, ?_, ?_, ?_, ?_, ?_, ?_, ?_, ?_, ?_, ?_, ?_, ?_, ?_, ?_⟩ <;> first | exact fun k => h _ k (by omega) (by omega) (by omega) | (funext k; exact h _ k (by omega) (by omega) (by omega))
end GEN
section CH
variable {C R : Mem}
theorem op_end (h : Inv C R) {x : Int} (hx : n32 x = x) : ∃ v C' R', X_end x C = some (v, C') ∧ M_end x R = some (v, R') ∧ Inv C' R' := by
  have h0 := h
  obtain ⟨t, b, ht, h12, h13, hb, h38, ⟨n, a1, a2, a3, a4⟩, a5, a6, a7, a8, a9, a10⟩ := h
  unfold X_end M_end
  rw [hx, a1, a2, n32_nat (by omega)]
  by_cases q : x < 0 ∨ (n : Int) < x
  · rw [if_pos q, if_pos q]
    exact ⟨_, _, _, rfl, rfl, h0⟩
  · rw [if_neg q, if_neg q, lt1_eq, lt1_eq]
    refine ⟨_, _, _, rfl, rfl, ?_⟩
    obtain ⟨y, rfl⟩ : ∃ y : Nat, x = (y : Int) := ⟨x.toNat, by omega⟩
    have hS : SameR R (up R 81 2 (y : Int)) := SameR_of (fun c k h1 h2 h3 => up_c (by omega))
    refine Inv_gen ht h12 h13 hb h38 a8 rfl rfl rfl hS (fun c k h1 h2 => up_c (by omega)) ⟨y, rfl, rfl, by omega, fun i hi => ?_⟩ (Time_keep rfl rfl a5) (Fault_keep rfl rfl rfl rfl a6) (Kept_keep (fun k => rfl) a7) (Says_keep hS (fun c k h1 h2 => up_c (by omega)) rfl (fun c k h1 h2 => up_c (by omega)) a9) (Box_keep hS (fun c k h1 h2 => up_c (by omega)) (fun c k h1 h2 => up_c (by omega)) a10)
    exact a4 i (by omega)
theorem op_later (h : Inv C R) {x : Int} (hx : n32 x = x) : ∃ v C' R', X_later x C = some (v, C') ∧ M_later x R = some (v, R') ∧ Inv C' R' := by
  have h0 := h
  obtain ⟨t, b, ht, h12, h13, hb, h38, a4, ⟨t1, t2, t3⟩, a6, a7, a8, a9, a10⟩ := h
  have hx2 := ineg_lt hx
  unfold X_later M_later
  rw [M_isIn_eq _ _ _ _ hx rfl rfl, bind_some', hx, ← t1]
  by_cases q : x < 0 ∨ 1000 < x
  · rw [if_pos (by omega), if_pos (Or.inl (by rw [if_neg (by omega)]; rfl))]
    exact ⟨_, _, _, rfl, rfl, h0⟩
  · rw [n32_of (a := C 1 12 + x) (by omega) (by omega)]
    by_cases q2 : 100000 < C 1 12 + x
    · rw [if_pos (by omega), if_pos (Or.inr q2)]
      exact ⟨_, _, _, rfl, rfl, h0⟩
    · rw [if_neg (by omega), if_neg (by rw [if_pos (by omega)]; rintro (e | e); exact absurd e (by decide); exact q2 e), lt1_eq, lt1_eq]
      refine ⟨_, _, _, rfl, rfl, ?_⟩
      have hS : SameR R (up R 81 58 (C 1 12 + x)) := SameR_of (fun c k h1 h2 h3 => up_c (by omega))
      refine Inv_gen ht h12 h13 hb h38 a8 rfl rfl rfl hS (fun c k h1 h2 => up_c (by omega)) (Tape_keep (fun k => rfl) rfl (fun k => rfl) rfl a4) ⟨rfl, ?_, ?_⟩ (Fault_keep rfl rfl rfl rfl a6) (Kept_keep (fun k => rfl) a7) (Says_keep hS (fun c k h1 h2 => up_c (by omega)) rfl (fun c k h1 h2 => up_c (by omega)) a9) (Box_keep hS (fun c k h1 h2 => up_c (by omega)) (fun c k h1 h2 => up_c (by omega)) a10)
      · show 0 ≤ C 1 12 + x; omega
      · show C 1 12 + x ≤ 100000; omega
theorem op_untell (h : Inv C R) {x : Int} (hx : n32 x = x) : ∃ v C' R', X_untell x C = some (v, C') ∧ M_untell x R = some (v, R') ∧ Inv C' R' := by
  have h0 := h
  obtain ⟨t, b, ht, h12, h13, hb, h38, a4, ⟨t1, t2, t3⟩, a6, a7, a8, ⟨m, m1, m2, m3, m4⟩, a10⟩ := h
  have hx2 := ineg_lt hx
  unfold X_untell M_untell
  rw [m3, M_isIn_eq _ _ _ _ hx rfl (n32_of (by omega) (by omega)), bind_some', hx, m2, n32_nat (by omega)]
  by_cases q : 0 ≤ x ∧ x < (m : Int)
  · obtain ⟨y, rfl⟩ : ∃ y : Nat, x = (y : Int) := ⟨x.toNat, by omega⟩
    obtain ⟨-, -, -, -, ⟨u1, u2, u3⟩, -, -⟩ := m4 y (by omega)
    rw [Nat.zero_add] at u1 u2 u3
    have u1 : C 47 y = R 119 y := u1
    rw [if_pos q.1, if_pos q.2, if_pos (by omega : 0 ≤ (y : Int) ∧ (y : Int) ≤ (m : Int) - 1), if_pos nz1, chk_pos (by omega), chk_pos (by omega), tn_nat, u1, n32_of (by omega) (by omega)]
    by_cases q2 : R 119 y = -1
    · rw [if_neg (by omega), bind_some', if_neg (by decide), if_neg (by omega), chk_pos (by omega), bind_some', if_neg (by decide), chk_pos (by omega), lt1_eq, lt1_eq]
      refine ⟨_, _, _, rfl, rfl, ?_⟩
      have hS : SameR R (up R 119 y (R 81 58)) := SameR_of (fun c k h1 h2 h3 => up_c (by omega))
      refine Inv_gen ht h12 h13 hb h38 a8 rfl rfl rfl hS (fun c k h1 h2 => up_c (by omega)) (Tape_keep (fun k => rfl) rfl (fun k => rfl) rfl a4) (Time_keep rfl rfl ⟨t1, t2, t3⟩) (Fault_keep rfl rfl rfl rfl a6) (Kept_keep (fun k => rfl) a7) ⟨m, m1, m2, m3, ?_⟩ (Box_keep hS (fun c k h1 h2 => up_c (by omega)) (fun c k h1 h2 => up_c (by omega)) a10)
      intro i hi
      have k := m4 i hi
      simp only [keep_nP hS, keep_nF hS, keep_canS hS, keep_isB hS, Nat.zero_add] at k ⊢
      obtain ⟨k1, k2, k3, k4, ⟨k5, k6, k7⟩, k8, k9⟩ := k
      refine ⟨k1, k2, k3, k4, ?_, k8, k9⟩
      by_cases e : i = y
      · subst e
        have e1 : up C 47 i (C 1 12) (42 + 5) i = C 1 12 := up_eq
        have e2 : up R 119 i (R 81 58) 119 i = R 81 58 := up_eq
        rw [e1, e2]
        omega
      · rw [up_k (M := C) e, up_k (M := R) e]
        exact ⟨k5, k6, k7⟩
    · rw [if_pos q2, bind_some', if_pos rfl, if_pos (by omega), chk_pos (by omega), bind_some', if_pos rfl]
      exact ⟨_, _, _, rfl, rfl, h0⟩
  · rw [if_neg (by omega : ¬ (0 ≤ x ∧ x ≤ (m : Int) - 1)), if_neg nz0, bind_some', if_pos rfl]
    by_cases q1 : 0 ≤ x
    · rw [if_pos q1, if_neg (by omega), bind_some', if_pos rfl]
      exact ⟨_, _, _, rfl, rfl, h0⟩
    · rw [if_neg q1, bind_some', if_pos rfl]
      exact ⟨_, _, _, rfl, rfl, h0⟩
end CH
