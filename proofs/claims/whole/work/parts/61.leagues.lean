/-! ===== operation: leagues ===== -/
theorem MT_half {N : Nat} : ∀ (d : Nat) (m : Nat → Int), MT N m → npM m N = d → 2 * d + cnt (fun p => decide (m p = -1)) N ≤ N
  | 0, m, h, e => by
    have := cnt_le (fun p => decide (m p = -1)) N
    omega
  | d + 1, m, h, e => by
    have hex : ∃ p, p < N ∧ (p : Int) < m p := by
      refine Classical.byContradiction (fun hno => ?_)
      have : npM m N = 0 := cnt_none (fun i hi => decide_eq_false (fun z => hno ⟨i, hi, z⟩))
      omega
    obtain ⟨p, hp, hlt⟩ := hex
    obtain ⟨q, q1, q2, q3, q4⟩ := MT_mate h hp hlt
    have e1 := mRm_np hp q2 q3 q4
    have ih := MT_half d (mRm m p q) (mRm_MT h hp q1 q3) (by omega)
    have s1 : cnt (fun i => decide (i ≠ p ∧ mRm m p q i = -1)) N + 1 = cnt (fun i => decide (mRm m p q i = -1)) N := by
      refine cnt_rm (a := p) ?_ ?_ ?_ hp
      · unfold mRm; rw [if_pos (Or.inl rfl)]; rfl
      · exact decide_eq_false (fun z => z.1 rfl)
      · intro i hi
        exact decide_eq_decide.mpr ⟨fun z => z.2, fun z => ⟨hi, z⟩⟩
    have s2 : cnt (fun i => decide (m i = -1)) N + 1 = cnt (fun i => decide (i ≠ p ∧ mRm m p q i = -1)) N := by
      refine cnt_rm (a := q) ?_ ?_ ?_ q1
      · unfold mRm; rw [if_pos (Or.inr rfl)]; exact decide_eq_true ⟨by omega, rfl⟩
      · exact decide_eq_false (by omega)
      · intro i hi
        refine decide_eq_decide.mpr ?_
        unfold mRm
        by_cases y : i = p
        · subst y
          constructor
          · intro z; omega
          · rintro ⟨z, -⟩; exact absurd rfl z
        · rw [if_neg (by omega)]
          exact ⟨fun z => ⟨y, z⟩, fun z => z.2⟩
    omega
theorem rL_fL {N : Nat} {R : Mem} {k : Int} {w : Nat} {v u : Int} (hN : N ≤ 8) (hr : rL N R k w v) (hf : fL N R k w 4 u) : (4 < u ∧ v = -1) ∨ (u ≤ 4 ∧ v = u) := by
  obtain ⟨f1, f2, f3⟩ := hf
  have half : ∀ m, gM N R k w m → npM m N ≤ 4 := by
    intro m hm
    have := MT_half _ m hm.1 rfl
    omega
  rcases hr with ⟨e, no⟩ | ⟨⟨m, m1, m2⟩, m3⟩
  · refine Or.inl ⟨?_, e⟩
    refine Classical.byContradiction (fun z => ?_)
    obtain ⟨m, h1, -⟩ := f3 (by omega)
    exact no m h1
  · have h4 := half m m1
    have h5 := f2 m m1 (by omega)
    obtain ⟨m', h6, h7⟩ := f3 (by omega)
    have := m3 m' h6
    exact Or.inr ⟨by omega, by omega⟩
section LGU
variable {t b : Nat} {C R : Mem}
theorem watched (ht : isT t) (hT : Town t b C R) (hS : Says t b C R) {k : Int} (hk : n32 k = k) : ∃ C5 C9, W_look t k C = some C5 ∧ C_watch t C5 = some C9 ∧ LX t (nP R b) (nS R) k C9 R ∧ (∀ w, w < 64 * nwd (nF R b) → sb C9 73 0 w = lfB R b k w) ∧ Town t b C9 R ∧ (∀ c j, c ≤ 70 → C5 c j = C c j) ∧ (∀ c j, c ≤ 70 → C9 c j = C c j) ∧ ∀ n, n < nS R → C9 44 n = R 117 n ∧ 0 ≤ R 117 n ∧ R 117 n < R 86 b := by
  obtain ⟨C5, e1, h1, h2⟩ := look_eq ht hT hS hk
  have hS' := hS
  obtain ⟨m, m1, m2, m3, m4⟩ := hS
  have eS : nS R = m := by unfold nS; rw [m3]; rfl
  have ht2 : t ≤ 15 := by unfold isT at ht; omega
  have hP := num_P hT.1
  have h5 := two_pow8 hP.2.2
  have hT5 : Town t b C5 R := Town_tw (fun c j q1 q2 => h2 c j (by unfold isT at ht; omega)) hT
  have hS5 : Says t b C5 R := Says_keep (SameR_of (fun _ _ _ _ _ => rfl)) (fun c j q1 q2 => h2 c j (by omega)) rfl (fun _ _ _ _ => rfl) hS'
  obtain ⟨C9, e2, ⟨w0, w1, w2, w4, w9⟩, wf⟩ := watch_eq ht hT5 hS5 h1
  have h9 : ∀ c j, c ≤ 70 → C9 c j = C c j := fun c j hc => (wf c j (by omega) (by omega)).trans (h2 c j hc)
  obtain ⟨k0, k1, k3, kj, ks, -⟩ := h1
  rw [eS] at k3 kj ⊢
  refine ⟨C5, C9, e1, e2, ⟨ht, hP.2.2, m1, eS, w0, w1, w2, ?_, fun j hj => ?_, fun n hn => ?_, ?_, w4, w9⟩, fun w hw => ?_, Town_tw (fun c j q1 q2 => h9 c j (by unfold isT at ht; omega)) hT, h2, h9, fun n hn => ?_⟩
  · rw [wf _ _ (by decide) (by decide)]; exact k3
  · rw [wf _ _ (by decide) (by decide)]; exact kj j hj
  · obtain ⟨⟨s1, s2, s3⟩, -⟩ := m4 n hn
    rw [Nat.zero_add] at s1 s2 s3
    rw [h9 _ _ (by omega), show C 43 n = R 116 n from s1]
    unfold sP
    omega
  · rw [h9 _ _ (by omega)]; exact hP.2.1
  · rw [← ks w hw]
    exact sb_eq (wf _ _ (by decide) (by decide))
  · obtain ⟨-, ⟨s1, s2, s3⟩, -⟩ := m4 n hn
    rw [Nat.zero_add] at s1 s2 s3
    rw [h9 _ _ (by omega), show C 44 n = R 117 n from s1]
    exact ⟨rfl, s2, s3⟩
end LGU
theorem op_leagues {C R : Mem} (h : Inv C R) {w k : Int} (hw : n32 w = w) (hk : n32 k = k) : ∃ v C' R', X_leagues w k C = some (v, C') ∧ M_leagues w k R = some (v, R') ∧ Inv C' R' := by
  have h0 := h
  obtain ⟨t, b, ht, h12, h13, hb, h38, -, -, -, -, hT, hS, -⟩ := h
  have hP := num_P hT.1
  unfold X_leagues M_leagues
  rw [h12, chk_pos (isTI_of rfl ht), lt1_eq, tn_nat]
  rcases T_hasWorld_eq ht hT.1 hT.2.2.2.2.2.1 hw with ⟨q, e⟩ | ⟨q, e⟩
  · rcases M_isWorld_eq hb h38 hT.1 hT.2.2.2.2.2.1 hw with ⟨-, e'⟩ | ⟨q', -⟩
    · rw [e, e', bind_some', bind_some', if_neg nz1, if_pos nz1]
      obtain ⟨C5, C9, e1, e2, hL, -, hT9, hC5, hC9, h44⟩ := watched ht hT hS hk
      rw [e1, bind_some', hC5 _ _ (by omega), h12, chk_pos (isTI_of rfl ht), lt1_eq, tn_nat, e2, bind_some']
      obtain ⟨q1, q2, q3⟩ := q
      obtain ⟨w, rfl⟩ : ∃ y : Nat, w = (y : Int) := ⟨w.toNat, by omega⟩
      obtain ⟨m, m1, m2, m3, m4⟩ := hS
      have hw2 : w < 2 ^ nF R b := by omega
      have hwb : isB R w = true := by simpa using q3
      obtain ⟨u, e3, hf⟩ := fewestIn_eq hL hT9.1 hT9.2.2.2.2.2.2.1 h44 hw2 hwb (most := 4) (by omega) (by omega)
      obtain ⟨⟨v, R'⟩, e4, hr, hfr⟩ := leaguesOf_eq hb m1 m3 m4 hT (M := R) (fun _ _ _ => rfl) h38 hk hw2 hwb
      dsimp only at hr hfr
      have hu := hf.1
      rw [e3, bind_some', e4, bind_some', n32_of (a := u) (by omega) (by omega)]
      have hI : Inv C9 R' := Inv_q hC9 (fun c j hp => hfr c j (by rintro rfl; simp [prR] at hp) (by rintro rfl; simp [prR] at hp) (by rintro rfl; simp [prR] at hp) (by rintro ⟨rfl, rfl⟩; simp [prR] at hp)) h0
      rcases rL_fL hP.2.2 hr hf with ⟨z1, z2⟩ | ⟨z1, z2⟩
      · rw [if_pos z1]
        exact ⟨-1, C9, R', rfl, by rw [z2], hI⟩
      · rw [if_neg (by omega)]
        exact ⟨u, C9, R', rfl, by rw [z2], hI⟩
    · exact absurd q q'
  · rcases M_isWorld_eq hb h38 hT.1 hT.2.2.2.2.2.1 hw with ⟨q', -⟩ | ⟨-, e'⟩
    · exact absurd q' q
    · rw [e, e', bind_some', bind_some', if_pos (by decide), if_neg nz0]
      exact ⟨_, _, _, rfl, rfl, h0⟩
