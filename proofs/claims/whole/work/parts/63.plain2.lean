section PLN
variable {t b : Nat} {C R : Mem}
theorem lfB_isB {k : Int} {w : Nat} (h : lfB R b k w = true) : isB R w = true := by
  unfold lfB at h
  rw [Bool.and_eq_true] at h
  exact h.1
theorem plainC_eq (ht : isT t) {C9 : Mem} (h12 : C9 1 2 = (t : Int)) (hT : Town t b C9 R) {k : Int} (hL : LX t (nP R b) (nS R) k C9 R) (hs : ∀ w, w < 64 * nwd (nF R b) → sb C9 73 0 w = lfB R b k w) (h44 : ∀ n, n < nS R → C9 44 n = R 117 n ∧ 0 ≤ R 117 n ∧ R 117 n < R 86 b) (hg : ∀ w, w < 2 ^ nF R b → lfB R b k w = true → rL (nP R b) R k w (gW (nP R b) R k w)) : Z (it (X_plain_b42 C9) FUEL ((-1), 5, 0)) (fun v => v = (pl (nP R b) b R k (2 ^ nF R b)).1) := by
  have hF := num_F hT.1
  have hP := num_P hT.1
  have h6 := two_pow8 hF.2.2
  have hwd := pow_wd hF.2.2
  have stop : ∀ n, n ≤ 2 ^ nF R b → (pl (nP R b) b R k n).2 = 0 → (pl (nP R b) b R k n).1 = (pl (nP R b) b R k (2 ^ nF R b)).1 := by
    intro n hn h
    have := pl_zero h (2 ^ nF R b - n)
    rw [show n + (2 ^ nF R b - n) = 2 ^ nF R b by omega] at this
    rw [this]
  refine it_Z (fun n st => st.1 = (pl (nP R b) b R k n).1 ∧ st.2.1 = (pl (nP R b) b R k n).2 ∧ st.2.2 = (n : Int)) (2 ^ nF R b) (by unfold FUEL; omega) ⟨rfl, rfl, rfl⟩ ?_ ?_
  · rintro n ⟨x, y, l⟩ hn ⟨e1, e2, el⟩
    dsimp only at e1 e2 el
    subst el
    have hr := pl_rng (nP R b) b R k n
    unfold X_plain_b42
    dsimp only
    rw [h12, chk_pos (isTI_of rfl ht), lt1_eq, tn_nat, hF.2.1, ishl_1 (by omega), n32_nat (by omega), n32_nat (by omega), e2, n32_of (a := (pl (nP R b) b R k n).2) (by omega) (by omega)]
    by_cases q : 0 < (pl (nP R b) b R k n).2
    · rw [if_pos ⟨by omega, q⟩]
      have eh := X_has_eq (c := 73) (o := 0) (w := n) C9 aJ73 (by omega) (by omega)
      rw [show ((0 : Nat) : Int) = 0 from rfl, hs n (by omega)] at eh
      rw [eh, bind_some']
      cases hl : lfB R b k n with
      | false =>
        rw [if_neg (show ¬ (false = true) by decide), if_neg nz0, bind_some']
        dsimp only
        rw [lt1_eq]
        have en : pl (nP R b) b R k (n + 1) = pl (nP R b) b R k n := by
          show (if lfB R b k n = true ∧ _ then _ else _) = _
          rw [if_neg (by rw [hl]; rintro ⟨z, -⟩; cases z)]
        exact Z_of (Or.inl ⟨_, rfl, by dsimp only; rw [en]; exact e1, by dsimp only; rw [en], rfl⟩)
      | true =>
        rw [if_pos rfl, if_pos nz1]
        obtain ⟨u, e3, hf⟩ := fewestIn_eq hL hT.1 hT.2.2.2.2.2.2.1 h44 hn (lfB_isB hl) (most := (pl (nP R b) b R k n).2 - 1) (by omega) (by omega)
        have hu := hf.1
        have hrl := hg n hn hl
        have hrr := rL_rng hP.2.2 hrl
        rw [e3, bind_some', n32_of (a := u) (by omega) (by omega)]
        rcases fL_rL hrl hf with ⟨z1, z2⟩ | ⟨z1, z2⟩
        · rw [if_pos (by omega), bind_some']
          dsimp only
          rw [lt1_eq]
          have en : pl (nP R b) b R k (n + 1) = ((n : Int), gW (nP R b) R k n) := by
            show (if lfB R b k n = true ∧ _ then _ else _) = _
            rw [if_pos ⟨hl, by omega, by omega⟩]
          exact Z_of (Or.inl ⟨_, rfl, by dsimp only; rw [en], by dsimp only; rw [en]; exact z2.symm, rfl⟩)
        · rw [if_neg (by omega), bind_some']
          dsimp only
          rw [lt1_eq]
          have en : pl (nP R b) b R k (n + 1) = pl (nP R b) b R k n := by
            show (if lfB R b k n = true ∧ _ then _ else _) = _
            rw [if_neg (by rintro ⟨-, y1, y2⟩; omega)]
          exact Z_of (Or.inl ⟨_, rfl, by dsimp only; rw [en]; exact e1, by dsimp only; rw [en], rfl⟩)
    · rw [if_neg (fun z => q z.2)]
      exact Z_of (Or.inr ⟨_, rfl, by rw [e1]; exact stop n (by omega) (by omega)⟩)
  · rintro ⟨x, y, l⟩ ⟨e1, e2, el⟩
    dsimp only at e1 e2 el
    subst el
    unfold X_plain_b42
    dsimp only
    rw [h12, chk_pos (isTI_of rfl ht), lt1_eq, tn_nat, hF.2.1, ishl_1 (by omega), if_neg (fun z => absurd z.1 (by omega))]
    exact Z_of ⟨_, rfl, e1⟩
theorem plainM_eq (hb : b < 2) (h38 : R 81 38 = (b : Int)) (hT : Town t b C R) (hS : Says t b C R) {k : Int} (hk : n32 k = k) {R1 : Mem} (hlf : ∀ w, w < 2 ^ nF R b → R1 122 w = b1 (lfB R b k w)) (hR1 : ∀ c j, ¬ (c = 115 ∨ c = 122 ∨ (c = 81 ∧ j = 60)) → R1 c j = R c j) (hg : ∀ w, w < 2 ^ nF R b → lfB R b k w = true → rL (nP R b) R k w (gW (nP R b) R k w)) : Z (it (M_plain_b12 k) FUEL ((-1), 0, 0, R1)) (fun r => r.1 = (pl (nP R b) b R k (2 ^ nF R b)).1 ∧ ∀ c j, c ≠ 129 → c ≠ 130 → c ≠ 131 → ¬ (c = 81 ∧ j = 70) → r.2 c j = R1 c j) := by
  have hF := num_F hT.1
  have hP := num_P hT.1
  have h6 := two_pow8 hF.2.2
  obtain ⟨m, m1, m2, m3, m4⟩ := hS
  have wm : ∀ M : Mem, (∀ c j, c ≠ 129 → c ≠ 130 → c ≠ 131 → ¬ (c = 81 ∧ j = 70) → M c j = R1 c j) → M_worldMany M = some ((2 ^ nF R b : Nat) : Int) := by
    intro M hM
    have hh : ∀ c j, ¬ (c = 115 ∨ c = 122 ∨ (c = 81 ∧ (j = 60 ∨ j = 70)) ∨ c = 129 ∨ c = 130 ∨ c = 131) → M c j = R c j := fun c j hc => (hM c j (by omega) (by omega) (by omega) (by omega)).trans (hR1 c j (by omega))
    have hSR : SameR R M := SameR_of (fun c j z1 z2 z3 => hh c j (by omega))
    have hTM : Town t b C M := Town_keep hSR (fun _ _ _ _ => rfl) hT
    rw [M_worldMany_eq hb ((hh _ _ (by omega)).trans h38) hTM.1, keep_nF hSR]
  refine it_Z (fun n st => st.1 = (pl (nP R b) b R k n).1 ∧ (0 ≤ st.1 → st.2.1 = (pl (nP R b) b R k n).2) ∧ st.2.2.1 = (n : Int) ∧ ∀ c j, c ≠ 129 → c ≠ 130 → c ≠ 131 → ¬ (c = 81 ∧ j = 70) → st.2.2.2 c j = R1 c j) (2 ^ nF R b) (by unfold FUEL; omega) ⟨rfl, fun z => by dsimp only at z; omega, rfl, fun _ _ _ _ _ _ => rfl⟩ ?_ ?_
  · rintro n ⟨x, y, l, M⟩ hn ⟨e1, e2, el, hf⟩
    dsimp only at e1 e2 el hf
    subst el
    have hr := pl_rng (nP R b) b R k n
    unfold M_plain_b12
    dsimp only
    rw [wm M hf, bind_some', n32_nat (by omega), n32_nat (by omega), if_pos (by omega), chk_pos (by omega), tn_nat, hf 122 n (by decide) (by decide) (by decide) (by omega), hlf n hn]
    cases hl : lfB R b k n with
    | false =>
      rw [show b1 false = 0 from rfl, if_neg nz0, bind_some']
      dsimp only
      rw [if_neg (show ¬ (0 ≤ n32 (-1)) by decide), bind_some']
      dsimp only
      rw [lt1_eq]
      have en : pl (nP R b) b R k (n + 1) = pl (nP R b) b R k n := by
        show (if lfB R b k n = true ∧ _ then _ else _) = _
        rw [if_neg (by rw [hl]; rintro ⟨z, -⟩; cases z)]
      exact Z_of (Or.inl ⟨_, rfl, by dsimp only; rw [en]; exact e1, by dsimp only; rw [en]; exact e2, rfl, hf⟩)
    | true =>
      rw [show b1 true = 1 from rfl, if_pos nz1]
      obtain ⟨⟨v, M'⟩, e4, hrv, hfr⟩ := leaguesOf_eq hb m1 m3 m4 hT (M := M) (fun c j hc => (hf c j (by omega) (by omega) (by omega) (by omega)).trans (hR1 c j (by omega))) h38 hk hn (lfB_isB hl)
      dsimp only at hrv hfr
      have hrr := rL_rng hP.2.2 hrv
      have hgv := gW_eq hrv
      have hf' : ∀ c j, c ≠ 129 → c ≠ 130 → c ≠ 131 → ¬ (c = 81 ∧ j = 70) → M' c j = R1 c j := fun c j z1 z2 z3 z4 => (hfr c j z1 z2 z3 z4).trans (hf c j z1 z2 z3 z4)
      rw [e4, bind_some']
      dsimp only
      rw [bind_some']
      dsimp only
      have ex : n32 x = x := n32_of (by omega) (by omega)
      rw [n32_of (a := v) (by omega) (by omega), ex]
      have en : pl (nP R b) b R k (n + 1) = if lfB R b k n = true ∧ 0 ≤ gW (nP R b) R k n ∧ gW (nP R b) R k n < (pl (nP R b) b R k n).2 then ((n : Int), gW (nP R b) R k n) else pl (nP R b) b R k n := rfl
      rw [hgv] at en
      have keep : pl (nP R b) b R k (n + 1) = pl (nP R b) b R k n → Z (some (Sum.inl (x, y, (n : Int) + 1, M')) : Option ((Int × Int × Int × Mem) ⊕ (Int × Mem))) (fun r => (∃ a', r = .inl a' ∧ (a'.1 = (pl (nP R b) b R k (n + 1)).1 ∧ (0 ≤ a'.1 → a'.2.1 = (pl (nP R b) b R k (n + 1)).2) ∧ a'.2.2.1 = ((n + 1 : Nat) : Int) ∧ ∀ c j, c ≠ 129 → c ≠ 130 → c ≠ 131 → ¬ (c = 81 ∧ j = 70) → a'.2.2.2 c j = R1 c j)) ∨ (∃ b', r = .inr b' ∧ (b'.1 = (pl (nP R b) b R k (2 ^ nF R b)).1 ∧ ∀ c j, c ≠ 129 → c ≠ 130 → c ≠ 131 → ¬ (c = 81 ∧ j = 70) → b'.2 c j = R1 c j))) := by
        intro e
        exact Z_of (Or.inl ⟨_, rfl, by dsimp only; rw [e]; exact e1, by dsimp only; rw [e]; exact e2, rfl, hf'⟩)
      by_cases q : 0 ≤ v
      · rw [if_pos q]
        by_cases q2 : 0 ≤ x ∧ n32 y ≤ v
        · rw [if_pos q2, bind_some']
          dsimp only
          rw [lt1_eq]
          have ey := e2 q2.1
          rw [ey, n32_of (a := (pl (nP R b) b R k n).2) (by omega) (by omega)] at q2
          rw [if_neg (by rintro ⟨-, -, z⟩; omega)] at en
          exact keep en
        · rw [if_neg q2, bind_some']
          dsimp only
          rw [lt1_eq]
          have hlt : v < (pl (nP R b) b R k n).2 := by
            by_cases q3 : 0 ≤ x
            · have ey := e2 q3
              rw [ey, n32_of (a := (pl (nP R b) b R k n).2) (by omega) (by omega)] at q2
              omega
            · omega
          rw [if_pos ⟨hl, q, hlt⟩] at en
          exact Z_of (Or.inl ⟨_, rfl, by dsimp only; rw [en], by dsimp only; rw [en]; exact fun _ => rfl, rfl, hf'⟩)
      · rw [if_neg q, bind_some']
        dsimp only
        rw [lt1_eq]
        rw [if_neg (by rintro ⟨-, z, -⟩; omega)] at en
        exact keep en
  · rintro ⟨x, y, l, M⟩ ⟨e1, e2, el, hf⟩
    dsimp only at e1 e2 el hf
    subst el
    unfold M_plain_b12
    dsimp only
    rw [wm M hf, bind_some', if_neg (by omega)]
    exact Z_of ⟨_, rfl, e1, hf⟩
end PLN
theorem op_plain {C R : Mem} (h : Inv C R) {k : Int} (hk : n32 k = k) : ∃ v C' R', X_plain k C = some (v, C') ∧ M_plain k R = some (v, R') ∧ Inv C' R' := by
  have h0 := h
  obtain ⟨t, b, ht, h12, h13, hb, h38, -, -, -, -, hT, hS, -⟩ := h
  obtain ⟨C5, C9, e1, e2, hL, hs, hT9, hC5, hC9, h44⟩ := watched ht hT hS hk
  obtain ⟨R1, e3, hlf, -, hR1⟩ := left_eq hb h38 hT hS hk
  have hg : ∀ w, w < 2 ^ nF R b → lfB R b k w = true → rL (nP R b) R k w (gW (nP R b) R k w) := by
    intro w hw hl
    obtain ⟨m, m1, m2, m3, m4⟩ := hS
    obtain ⟨r, -, hr, -⟩ := leaguesOf_eq hb m1 m3 m4 hT (M := R) (fun _ _ _ => rfl) h38 hk hw (lfB_isB hl)
    rw [gW_eq hr]
    exact hr
  obtain ⟨v, e4, hv⟩ := plainC_eq ht ((hC9 _ _ (by omega)).trans h12) hT9 hL hs h44 hg
  obtain ⟨⟨u, R2⟩, e5, hu, hR2⟩ := plainM_eq hb h38 hT hS hk hlf hR1 hg
  dsimp only at hu hR2
  unfold X_plain M_plain
  rw [h12, chk_pos (isTI_of rfl ht), lt1_eq, tn_nat, e1, bind_some', hC5 _ _ (by omega), h12, chk_pos (isTI_of rfl ht), lt1_eq, tn_nat, e2, bind_some', e4, bind_some', e3, bind_some', e5, bind_some']
  refine ⟨v, C9, R2, rfl, by rw [hv, ← hu], Inv_q hC9 (fun c j hp => ?_) h0⟩
  rw [hR2 c j (by rintro rfl; simp [prR] at hp) (by rintro rfl; simp [prR] at hp) (by rintro rfl; simp [prR] at hp) (by rintro ⟨rfl, rfl⟩; simp [prR] at hp)]
  refine hR1 c j ?_
  rintro (rfl | rfl | ⟨rfl, rfl⟩)
  · simp [prR] at hp
  · simp [prR] at hp
  · simp [prR] at hp
