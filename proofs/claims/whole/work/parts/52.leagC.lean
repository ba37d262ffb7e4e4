/-! ===== leagues: pairs of persons, the class's search ===== -/
def MT (N : Nat) (m : Nat → Int) : Prop := ∀ p, p < N → m p = -1 ∨ ∃ q, q < N ∧ q ≠ p ∧ m p = (q : Int) ∧ m q = (p : Int)
def npM (m : Nat → Int) (N : Nat) : Nat := cnt (fun p => decide ((p : Int) < m p)) N
def cvM (m : Nat → Int) (N s : Nat) : Bool := anyB (fun p => decide ((p : Int) < m p) && (s.testBit p && s.testBit (m p).toNat)) N
def mRm (m : Nat → Int) (a c : Nat) : Nat → Int := fun p => if p = a ∨ p = c then -1 else m p
def mAd (m : Nat → Int) (a c : Nat) : Nat → Int := fun p => if p = a then (c : Int) else if p = c then (a : Int) else m p
theorem cnt_rm {p q : Nat → Bool} {a : Nat} (hp : p a = true) (hq : q a = false) (h : ∀ i, i ≠ a → q i = p i) : ∀ {n : Nat}, a < n → cnt q n + 1 = cnt p n
  | 0, hn => by omega
  | n + 1, hn => by
    show cnt q n + (if q n = true then 1 else 0) + 1 = cnt p n + (if p n = true then 1 else 0)
    by_cases e : a = n
    · subst e
      rw [hp, hq, cnt_congr (p := q) (q := p) (fun i hi => h i (by omega))]
      simp
    · rw [h n (by omega), ← cnt_rm hp hq h (n := n) (by omega)]
      omega
theorem mRm_MT {N a c : Nat} {m : Nat → Int} (h : MT N m) (ha : a < N) (hc : c < N) (hac : m a = (c : Int)) : MT N (mRm m a c) := by
  have hca : m c = (a : Int) := by
    rcases h a ha with z | ⟨q, q1, q2, q3, q4⟩
    · omega
    · have : q = c := by omega
      subst this; exact q4
  intro p hp
  unfold mRm
  by_cases e : p = a ∨ p = c
  · rw [if_pos e]; exact Or.inl rfl
  · rw [if_neg e]
    rcases h p hp with z | ⟨q, q1, q2, q3, q4⟩
    · exact Or.inl z
    · refine Or.inr ⟨q, q1, q2, q3, ?_⟩
      rw [if_neg]
      · exact q4
      · rintro (rfl | rfl)
        · omega
        · omega
theorem mRm_np {N a c : Nat} {m : Nat → Int} (ha : a < N) (hlt : a < c) (hac : m a = (c : Int)) (hca : m c = (a : Int)) : npM (mRm m a c) N + 1 = npM m N := by
  unfold npM
  refine cnt_rm (a := a) ?_ ?_ ?_ ha
  · exact decide_eq_true (by omega)
  · unfold mRm
    rw [if_pos (Or.inl rfl)]
    exact decide_eq_false (by omega)
  · intro i hi
    unfold mRm
    by_cases e : i = c
    · subst e
      rw [if_pos (Or.inr rfl), hca, decide_eq_false (by omega), decide_eq_false (by omega)]
    · rw [if_neg (by omega)]
theorem mRm_cv {N a c s : Nat} {m : Nat → Int} (hlt : a < c) (hac : m a = (c : Int)) (hca : m c = (a : Int)) (h : cvM m N s = true) (hn : ¬ (s.testBit a = true ∧ s.testBit c = true)) : cvM (mRm m a c) N s = true := by
  unfold cvM at h ⊢
  obtain ⟨p, hp, hh⟩ := anyB_iff.mp h
  simp only [Bool.and_eq_true, decide_eq_true_eq] at hh
  refine anyB_iff.mpr ⟨p, hp, ?_⟩
  unfold mRm
  have h1 : p ≠ a := by
    rintro rfl
    apply hn
    rw [hac] at hh
    exact ⟨hh.2.1, hh.2.2⟩
  have h2 : p ≠ c := by
    rintro rfl
    have := hh.1
    omega
  rw [if_neg (by omega)]
  simp only [Bool.and_eq_true, decide_eq_true_eq]
  exact hh
theorem mAd_MT {N a c : Nat} {m : Nat → Int} (h : MT N m) (ha : a < N) (hc : c < N) (hne : a ≠ c) (h1 : m a = -1) (h2 : m c = -1) : MT N (mAd m a c) := by
  intro p hp
  unfold mAd
  by_cases e : p = a
  · subst e
    rw [if_pos rfl]
    refine Or.inr ⟨c, hc, by omega, rfl, ?_⟩
    rw [if_neg (by omega), if_pos rfl]
  · rw [if_neg e]
    by_cases e2 : p = c
    · subst e2
      rw [if_pos rfl]
      refine Or.inr ⟨a, ha, by omega, rfl, ?_⟩
      rw [if_pos rfl]
    · rw [if_neg e2]
      rcases h p hp with z | ⟨q, q1, q2, q3, q4⟩
      · exact Or.inl z
      · refine Or.inr ⟨q, q1, q2, q3, ?_⟩
        rw [if_neg, if_neg]
        · exact q4
        · rintro rfl; omega
        · rintro rfl; omega
theorem mAd_np {N a c : Nat} {m : Nat → Int} (ha : a < N) (hlt : a < c) (h1 : m a = -1) (h2 : m c = -1) : npM (mAd m a c) N = npM m N + 1 := by
  unfold npM
  refine (cnt_rm (a := a) ?_ ?_ ?_ ha).symm
  · unfold mAd; rw [if_pos rfl]; exact decide_eq_true (by omega)
  · rw [h1]; exact decide_eq_false (by omega)
  · intro i hi
    unfold mAd
    rw [if_neg hi]
    by_cases e : i = c
    · subst e
      rw [if_pos rfl, h2, decide_eq_false (by omega), decide_eq_false (by omega)]
    · rw [if_neg e]
theorem mAd_cv {N a c s : Nat} {m : Nat → Int} (hlt : a < c) (h1 : m a = -1) (h2 : m c = -1) (h : cvM m N s = true) : cvM (mAd m a c) N s = true := by
  unfold cvM at h ⊢
  obtain ⟨p, hp, hh⟩ := anyB_iff.mp h
  refine anyB_iff.mpr ⟨p, hp, ?_⟩
  have hh2 := hh
  simp only [Bool.and_eq_true, decide_eq_true_eq] at hh2
  have e1 : p ≠ a := by rintro rfl; omega
  have e2 : p ≠ c := by rintro rfl; omega
  unfold mAd
  rw [if_neg e1, if_neg e2]
  exact hh
theorem mAd_cv2 {N a c s : Nat} {m : Nat → Int} (ha : a < N) (hlt : a < c) (h : s.testBit a = true ∧ s.testBit c = true) : cvM (mAd m a c) N s = true := by
  unfold cvM
  refine anyB_iff.mpr ⟨a, ha, ?_⟩
  unfold mAd
  rw [if_pos rfl]
  simp only [Bool.and_eq_true, decide_eq_true_eq]
  exact ⟨by omega, h.1, by simpa using h.2⟩
/-- a saying that a league must stand behind where it is not so -/
def wB (R : Mem) (k : Int) (n : Nat) : Bool := decide (n < nS R) && (ct R k n && (decide (R 121 n = 1) && decide (2 ≤ popc (R 116 n).toNat)))
def sP (R : Mem) (n : Nat) : Nat := (R 116 n).toNat
section LC
variable {t b : Nat} {C R : Mem}
def SC (t b : Nat) (k : Int) (C R : Mem) : Prop := C 78 0 = (t : Int) ∧ C 78 1 = 42 ∧ C 78 2 = 71 ∧ (∀ n, n < 64 → qb (C 78 4) n = wB R k n) ∧ ∀ a c n, a < c → c < nP R b → n < 64 → qb (C 79 (8 * a + c)) n = (wB R k n && ((sP R n).testBit a && (sP R n).testBit c))
theorem jshl1 {n : Nat} (hn : n < 64) (x : Int) (i : Nat) : qb (jor x (jshl 1 (n : Int))) i = (qb x i || decide (i = n)) := by rw [qb_or, qb_bit hn]
def nPd (N n s : Nat) (M : Mem) (a c : Nat) (M' : Mem) : Prop := (∀ a' c' x, a' < c' → c' < N → x < 64 → qb (M' 79 (8 * a' + c')) x = (qb (M 79 (8 * a' + c')) x || (decide (a' < a ∨ (a' = a ∧ c' < c)) && (decide (x = n) && (s.testBit a' && s.testBit c'))))) ∧ ∀ c l, c ≠ 79 → M' c l = M c l
theorem nPd_eq {N n s : Nat} {M M' : Mem} {a c a2 c2 : Nat} (h : nPd N n s M a c M') (e : ∀ a' c', a' < c' → c' < N → ((a' < a ∨ (a' = a ∧ c' < c)) ↔ (a' < a2 ∨ (a' = a2 ∧ c' < c2)))) : nPd N n s M a2 c2 M' := by
  refine ⟨fun a' c' x h1 h2 h3 => ?_, h.2⟩
  rw [h.1 a' c' x h1 h2 h3, decide_eq_decide.mpr (e a' c' h1 h2)]
theorem notePairs_eq {t N n s : Nat} {M : Mem} (ht : isT t) (h0 : M 78 0 = (t : Int)) (h1 : M 78 1 = 42) (hN : M t 1 = (N : Int)) (hN8 : N ≤ 8) (hs : M 43 n = (s : Int)) (hs8 : s < 256) (hn : n < 40) : Z (C_notePairs (n : Int) M) (nPd N n s M N 0) := by
  have ht2 : t ≤ 15 := by unfold isT at ht; omega
  unfold C_notePairs
  rw [h1, chk_pos (show (42 : Int) = ((42 : Nat) : Int) from rfl), chk_pos (by omega), lt1_eq, tn_nat, hs, Z_bind_iff]
  refine it_Z (fun a st => st.1 = (a : Int) ∧ nPd N n s M a 0 st.2) N (by unfold FUEL; omega) ⟨rfl, ?_, fun c l _ => rfl⟩ ?_ ?_
  · intro a' c' x h1 h2 h3
    dsimp only
    rw [decide_eq_false (by omega), Bool.false_and, Bool.or_false]
  · rintro a ⟨l, M1⟩ ha ⟨el, hI⟩
    dsimp only at el hI
    subst el
    have k0 : M1 78 0 = (t : Int) := by rw [hI.2 78 0 (by decide)]; exact h0
    have kN : M1 t 1 = (N : Int) := by rw [hI.2 t 1 (by omega)]; exact hN
    unfold C_notePairs_b12
    dsimp only
    rw [k0, chk_pos (isTI_of rfl ht), lt1_eq, tn_nat, kN, n32_nat (by omega), n32_nat (by omega), if_pos (by omega), lt1_eq, Z_bind_iff]
    refine it_Z (fun j st => st.1 = ((a + 1 + j : Nat) : Int) ∧ nPd N n s M a (a + 1 + j) st.2) (N - (a + 1)) (by unfold FUEL; omega) ⟨by dsimp only; omega, nPd_eq hI (fun a' c' h1 h2 => by omega)⟩ ?_ ?_
    · rintro j ⟨l, M2⟩ hj ⟨el, hJ⟩
      dsimp only at el hJ
      subst el
      have k0 : M2 78 0 = (t : Int) := by rw [hJ.2 78 0 (by decide)]; exact h0
      have kN : M2 t 1 = (N : Int) := by rw [hJ.2 t 1 (by omega)]; exact hN
      generalize hc : a + 1 + j = c at *
      unfold C_notePairs_b28
      dsimp only
      rw [k0, chk_pos (isTI_of rfl ht), lt1_eq, tn_nat, kN, n32_nat (by omega), n32_nat (by omega), if_pos (by omega), X_hasBit_eq (by omega) (by omega), bind_some']
      have hcond : ((if ¬ n32 (if s.testBit a then (1 : Int) else 0) = 0 then (X_hasBit (s : Int) (c : Int) M2).bind fun r_40 => if ¬ n32 r_40 = 0 then some true else some false else some false)) = some (s.testBit a && s.testBit c) := by
        rw [X_hasBit_eq (by omega) (by omega), bind_some']
        cases s.testBit a <;> cases s.testBit c <;> rfl
      rw [hcond, bind_some']
      have ed : ∀ a' c', a' < c' → c' < N → ¬ (a' = a ∧ c' = c) → ((a' < a ∨ (a' = a ∧ c' < c)) ↔ (a' < a ∨ (a' = a ∧ c' < c + 1))) := by intro a' c' _ _ _; omega
      cases hb : (s.testBit a && s.testBit c) with
      | false =>
        rw [if_neg (by decide), bind_some', lt1_eq]
        refine Z_of (Or.inl ⟨_, rfl, by dsimp only; omega, ?_⟩)
        dsimp only
        rw [show a + 1 + (j + 1) = c + 1 by omega]
        refine ⟨fun a' c' x h1 h2 h3 => ?_, hJ.2⟩
        rw [hJ.1 a' c' x h1 h2 h3]
        by_cases q : a' = a ∧ c' = c
        · obtain ⟨rfl, rfl⟩ := q
          rw [hb]; simp
        · rw [decide_eq_decide.mpr (ed a' c' h1 h2 q)]
      | true =>
        rw [if_pos rfl, show (a : Int) * 8 + (c : Int) = ((8 * a + c : Nat) : Int) by omega, chk_pos (by omega), lt1_eq, bind_some', lt1_eq, tn_nat]
        refine Z_of (Or.inl ⟨_, rfl, by dsimp only; omega, ?_⟩)
        dsimp only
        rw [show a + 1 + (j + 1) = c + 1 by omega]
        refine ⟨fun a' c' x h1 h2 h3 => ?_, fun c2 l h => by rw [up_c h]; exact hJ.2 c2 l h⟩
        by_cases q : a' = a ∧ c' = c
        · obtain ⟨rfl, rfl⟩ := q
          rw [up_eq, jshl1 (by omega), hJ.1 a' c' x h1 h2 h3, hb, decide_eq_false (show ¬ (a' < a' ∨ (a' = a' ∧ c' < c')) by omega), decide_eq_true (show (a' < a' ∨ (a' = a' ∧ c' < c' + 1)) by omega)]
          simp
        · rw [up_k (by omega), hJ.1 a' c' x h1 h2 h3, decide_eq_decide.mpr (ed a' c' h1 h2 q)]
    · rintro ⟨l, M2⟩ ⟨el, hJ⟩
      dsimp only at el hJ
      subst el
      have k0 : M2 78 0 = (t : Int) := by rw [hJ.2 78 0 (by decide)]; exact h0
      have kN : M2 t 1 = (N : Int) := by rw [hJ.2 t 1 (by omega)]; exact hN
      unfold C_notePairs_b28
      dsimp only
      rw [k0, chk_pos (isTI_of rfl ht), lt1_eq, tn_nat, kN, n32_nat (by omega), n32_nat (by omega), if_neg (by omega)]
      refine Z_of ⟨_, rfl, ?_⟩
      rw [lt1_eq]
      refine Z_of (Or.inl ⟨_, rfl, by dsimp only; omega, nPd_eq hJ (fun a' c' h1 h2 => by omega)⟩)
  · rintro ⟨l, M1⟩ ⟨el, hI⟩
    dsimp only at el hI
    subst el
    have k0 : M1 78 0 = (t : Int) := by rw [hI.2 78 0 (by decide)]; exact h0
    have kN : M1 t 1 = (N : Int) := by rw [hI.2 t 1 (by omega)]; exact hN
    unfold C_notePairs_b12
    dsimp only
    rw [k0, chk_pos (isTI_of rfl ht), lt1_eq, tn_nat, kN, n32_nat (by omega), if_neg (by omega)]
    exact Z_of ⟨_, rfl, Z_of hI⟩
theorem watch_eq (ht : isT t) (hT : Town t b C R) (hS : Says t b C R) {k : Int} (hk : KnR t b k C R) : Z (C_watch t C) (fun C' => SC t b k C' R ∧ ∀ c j, c ≠ 78 → c ≠ 79 → C' c j = C c j) := by
  obtain ⟨m, m1, m2, m3, m4⟩ := hS
  have eS : nS R = m := by unfold nS; rw [m3]; rfl
  have hP := num_P hT.1
  have h5 := two_pow8 hP.2.2
  have ht2 : t ≤ 15 := by unfold isT at ht; omega
  obtain ⟨-, -, k3, kj, -, -⟩ := hk
  rw [eS] at k3 kj
  have hcm := cnt_le (ct R k) m
  unfold C_watch
  rw [lt1_eq, lt1_eq, lt1_eq, lt1_eq]
  generalize hM0 : up (up (up (up C 78 0 (t : Int)) 78 1 ((42 : Nat) : Int)) 78 2 ((71 : Nat) : Int)) 78 4 0 = M0
  have z0 : M0 78 0 = (t : Int) := by rw [← hM0]; rfl
  have z1 : M0 78 1 = 42 := by rw [← hM0]; rfl
  have z2 : M0 78 2 = 71 := by rw [← hM0]; rfl
  have z4 : M0 78 4 = 0 := by rw [← hM0]; rfl
  have zc : ∀ c j, c ≠ 78 → M0 c j = C c j := fun c j h => by rw [← hM0, up_c h, up_c h, up_c h, up_c h]
  clear hM0
  have e1 : it C_watch_b23 FUEL (0, M0) = some (wup M0 79 0 64 (fun _ => 0)) := by
    refine it_for (fun i => ((i : Int), wup M0 79 0 i (fun _ => 0))) 64 (by unfold FUEL; omega) (by rw [wup_0]; rfl) ?_ ?_
    · intro i hi
      unfold C_watch_b23
      dsimp only
      rw [n32_nat (by omega), if_pos (by omega), chk_pos (by omega), lt1_eq, lt1_eq, tn_nat]
      have e := wup_s (M := M0) (c := 79) (o := 0) (i := i) (f := fun _ => 0) (v := 0) rfl
      rw [Nat.zero_add] at e
      rw [e]
      rfl
    · rfl
  rw [e1, bind_some', Z_bind_iff]
  refine it_Z (fun j st => st.1 = (j : Int) ∧ (st.2 78 0 = (t : Int) ∧ st.2 78 1 = 42 ∧ st.2 78 2 = 71) ∧ (∀ n, n < 64 → qb (st.2 78 4) n = (wB R k n && decide (cnt (ct R k) n < j))) ∧ (∀ a c n, a < c → c < nP R b → n < 64 → qb (st.2 79 (8 * a + c)) n = ((wB R k n && decide (cnt (ct R k) n < j)) && ((sP R n).testBit a && (sP R n).testBit c))) ∧ ∀ c l, c ≠ 78 → c ≠ 79 → st.2 c l = C c l) (cnt (ct R k) m) (by unfold FUEL; omega) ⟨rfl, ⟨?_, ?_, ?_⟩, fun n hn => ?_, fun a c n h1 h2 hn => ?_, fun c l h1 h2 => ?_⟩ ?_ ?_
  · dsimp only; rw [wup_c (by decide)]; exact z0
  · dsimp only; rw [wup_c (by decide)]; exact z1
  · dsimp only; rw [wup_c (by decide)]; exact z2
  · dsimp only; rw [wup_c (by decide), z4, qb_0]; simp
  · dsimp only
    rw [wup_at, if_pos (by omega), qb_0]; simp
  · dsimp only; rw [wup_c h2]; exact zc c l h1
  · rintro j ⟨l, M⟩ hj ⟨el, ⟨g0, g1, g2⟩, g4, g9, gf⟩
    dsimp only at el g0 g1 g2 g4 g9 gf
    subst el
    obtain ⟨c1, c2, c3⟩ := clG_mem hj
    generalize hn : clG (ct R k) m j = n at *
    obtain ⟨⟨s1, s2, s3⟩, -, ⟨s4, s5⟩, -⟩ := m4 n c1
    rw [Nat.zero_add] at s1 s2 s3 s4 s5
    have step : ∀ x, x < 64 → decide (cnt (ct R k) x < j + 1) = (decide (cnt (ct R k) x < j) || decide (cnt (ct R k) x = j)) := by
      intro x _
      by_cases y : cnt (ct R k) x < j
      · rw [decide_eq_true y, decide_eq_true (show cnt (ct R k) x < j + 1 by omega)]; rfl
      · by_cases y2 : cnt (ct R k) x = j
        · rw [decide_eq_true y2, decide_eq_true (show cnt (ct R k) x < j + 1 by omega)]; simp
        · rw [decide_eq_false y, decide_eq_false y2, decide_eq_false (show ¬ cnt (ct R k) x < j + 1 by omega)]; rfl
    have only : ∀ x, wB R k x = true → cnt (ct R k) x = j → x = n := by
      intro x hx hcx
      unfold wB at hx
      simp only [Bool.and_eq_true, decide_eq_true_eq] at hx
      have e := clG_get (p := ct R k) hx.2.1 (m := m) (by omega)
      rw [hcx, hn] at e
      exact e.symm
    unfold C_watch_b47
    dsimp only
    rw [g2, chk_pos (show (71 : Int) = ((71 : Nat) : Int) from rfl), gf 71 3 (by decide) (by decide), k3, n32_nat (by omega), n32_nat (by omega), if_pos (by omega), chk_pos (by omega), lt1_eq, tn_nat, gf 72 j (by decide) (by decide), kj j hj, hn, g1, chk_pos (show (42 : Int) = ((42 : Nat) : Int) from rfl), chk_pos (by omega), tn_nat, gf 45 n (by decide) (by decide), gf 43 n (by decide) (by decide), show C 45 n = R 121 n from s4, show C 43 n = R 116 n from s1]
    have hsn : R 116 n = (sP R n : Int) := by unfold sP; omega
    have hsl : sP R n < 256 := by unfold sP; omega
    have hbit : JI_bitCount (R 116 n) M = some ((popc (sP R n) : Nat) : Int) := by rw [hsn]; exact JI_bit (by omega) M
    have hpl := popc_le (sP R n)
    have hcond : ((if ¬ n32 (R 121 n) = 0 then (JI_bitCount (R 116 n) M).bind fun r_44 => if 1 < n32 r_44 then some true else some false else some false)) = some (wB R k n) := by
      have hw : wB R k n = (decide (R 121 n = 1) && decide (2 ≤ popc (sP R n))) := by
        unfold wB
        rw [eS, decide_eq_true c1, c2]
        rfl
      rw [hw, hbit]
      rcases s5 with e | e
      · rw [e]; rfl
      · rw [e, if_pos nz1, bind_some', n32_nat (by omega)]
        by_cases y : 1 < (popc (sP R n) : Int)
        · rw [if_pos y, decide_eq_true (show 2 ≤ popc (sP R n) by omega)]; rfl
        · rw [if_neg y, decide_eq_false (show ¬ 2 ≤ popc (sP R n) by omega)]; rfl
    rw [hcond, bind_some']
    cases hw : wB R k n with
    | false =>
      rw [if_neg (by decide), bind_some', lt1_eq]
      refine Z_of (Or.inl ⟨_, rfl, rfl, ⟨g0, g1, g2⟩, fun x hx => ?_, fun a c x h1 h2 hx => ?_, gf⟩)
      · dsimp only
        rw [g4 x hx, step x hx]
        cases hwx : wB R k x with
        | false => rfl
        | true =>
          have : ¬ cnt (ct R k) x = j := fun e => by rw [only x hwx e, hw] at hwx; cases hwx
          rw [decide_eq_false this, Bool.or_false]
      · dsimp only
        rw [g9 a c x h1 h2 hx, step x hx]
        cases hwx : wB R k x with
        | false => rfl
        | true =>
          have : ¬ cnt (ct R k) x = j := fun e => by rw [only x hwx e, hw] at hwx; cases hwx
          rw [decide_eq_false this, Bool.or_false]
    | true =>
      rw [if_pos rfl, lt1_eq]
      have hwn : wB R k n = true := hw
      generalize hMu : up M 78 4 (jor (M 78 4) (jshl 1 (n : Int))) = M1
      have u0 : M1 78 0 = (t : Int) := by rw [← hMu, up_k (by decide)]; exact g0
      have u1 : M1 78 1 = 42 := by rw [← hMu, up_k (by decide)]; exact g1
      have u2 : M1 78 2 = 71 := by rw [← hMu, up_k (by decide)]; exact g2
      have u4 : M1 78 4 = jor (M 78 4) (jshl 1 (n : Int)) := by rw [← hMu, up_eq]
      have uf : ∀ c j, c ≠ 78 → M1 c j = M c j := fun c j h => by rw [← hMu, up_c h]
      clear hMu
      have hsn : R 116 n = (sP R n : Int) := by unfold sP; omega
      have hsl : sP R n < 256 := by unfold sP; omega
      have hNP := notePairs_eq (N := nP R b) (n := n) (s := sP R n) (M := M1) ht u0 u1 (by rw [uf t 1 (by omega), gf t 1 (by omega) (by omega)]; exact hP.2.1) (by omega) (by rw [uf 43 n (by decide), gf 43 n (by decide) (by decide), ← hsn]; exact s1) hsl (by omega)
      rw [Z_bind_iff, Z_bind_iff]
      refine Z_mono hNP ?_
      rintro M2 ⟨q1, q2⟩
      rw [Z_iff_some, lt1_eq]
      have snd : ∀ x, x < 64 → ∀ y : Bool, (wB R k x = true → (decide (cnt (ct R k) x = j) = true ↔ x = n)) := by
        intro x _ _ hx
        rw [decide_eq_true_eq]
        exact ⟨only x hx, fun e => by rw [e]; exact c3⟩
      refine Z_of (Or.inl ⟨_, rfl, rfl, ⟨by dsimp only; rw [q2 78 0 (by decide)]; exact u0, by dsimp only; rw [q2 78 1 (by decide)]; exact u1, by dsimp only; rw [q2 78 2 (by decide)]; exact u2⟩, fun x hx => ?_, fun a c x h1 h2 hx => ?_, fun c l h1 h2 => by dsimp only; rw [q2 c l h2, uf c l h1]; exact gf c l h1 h2⟩)
      · dsimp only
        rw [q2 78 4 (by decide), u4, jshl1 (by omega), g4 x hx, step x hx]
        by_cases y : x = n
        · subst y
          rw [hwn, decide_eq_true c3]; simp
        · rw [decide_eq_false y, Bool.or_false]
          cases hwx : wB R k x with
          | false => rfl
          | true => rw [decide_eq_false (fun e => y (only x hwx e)), Bool.or_false]
      · dsimp only
        rw [q1 a c x h1 h2 hx, uf 79 _ (by decide), g9 a c x h1 h2 hx, step x hx, decide_eq_true (show a < nP R b ∨ (a = nP R b ∧ c < 0) by omega)]
        by_cases y : x = n
        · subst y
          rw [hwn, decide_eq_true c3]; simp
        · rw [decide_eq_false y]
          cases hwx : wB R k x with
          | false => simp
          | true => rw [decide_eq_false (fun e => y (only x hwx e))]; simp
  · rintro ⟨l, M⟩ ⟨el, ⟨g0, g1, g2⟩, g4, g9, gf⟩
    dsimp only at el g0 g1 g2 g4 g9 gf
    subst el
    unfold C_watch_b47
    dsimp only
    rw [g2, chk_pos (show (71 : Int) = ((71 : Nat) : Int) from rfl), gf 71 3 (by decide) (by decide), k3, if_neg (by omega)]
    have full : ∀ n, wB R k n = true → cnt (ct R k) n < cnt (ct R k) m := by
      intro n hn
      unfold wB at hn
      simp only [Bool.and_eq_true, decide_eq_true_eq] at hn
      exact cnt_lt (by omega) hn.2.1
    refine Z_of ⟨_, rfl, Z_of ⟨⟨g0, g1, g2, fun n hn => ?_, fun a c n h1 h2 hn => ?_⟩, gf⟩⟩
    · rw [g4 n hn]
      cases hw : wB R k n with
      | false => rfl
      | true => rw [decide_eq_true (full n hw)]; rfl
    · rw [g9 a c n h1 h2 hn]
      cases hw : wB R k n with
      | false => rfl
      | true => rw [decide_eq_true (full n hw)]; rfl
end LC
