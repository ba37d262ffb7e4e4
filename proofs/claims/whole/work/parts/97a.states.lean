/-! ===== states between tokens: good, or failing on both sides ===== -/
def TB (n : Nat) (C0 R0 : Mem) : Prop := n ≤ 1600 ∧ (∀ i, i < n → -128 ≤ C0 2 i ∧ C0 2 i < 128) ∧ R0 81 3 = (n : Int) ∧ (∀ i, i < n → R0 83 i = C0 2 i) ∧ KeptR C0
def OnT (C0 R0 C R : Mem) : Prop := (∀ c k, c ≠ 40 → C c k = C0 c k) ∧ ∀ c k, ¬ (c = 81 ∧ 4 ≤ k ∧ k ≤ 10) → R c k = R0 c k
def Gd (n kd p : Nat) (C R : Mem) : Prop := C 40 2 = (n : Int) ∧ (R 81 4 = 0 ∧ R 81 5 = -1 ∧ C 40 8 = 0 ∧ C 40 9 = -1) ∧ C 40 5 = (p : Int) ∧ R 81 6 = (p : Int) ∧ (∃ e : Nat, p ≤ e ∧ e ≤ n ∧ (kd ≠ 23 → p < e) ∧ C 40 3 = (e : Int) ∧ R 81 7 = (e : Int)) ∧ Tok n kd C R
def Flt (R : Mem) (f p : Int) : Prop := R 81 4 = f ∧ R 81 5 = p ∧ 0 < f ∧ f < 10
def BadT (R : Mem) (p : Int) : Prop := R 81 4 = 0 ∧ R 81 8 = 1 ∧ R 81 6 = p
def FBr (R : Mem) (f p : Int) : Prop := (∃ q : Nat, q ≤ 1600 ∧ R 81 6 = (q : Int)) ∧ (Flt R f p ∨ (f = 1 ∧ BadT R p))
def FB (C R : Mem) : Prop := ∃ f p : Int, (C 40 4 = 24 ∧ C 40 8 = f ∧ C 40 9 = p) ∧ FBr R f p
def S3 (n q : Nat) (P : Prop) (C0 R0 C R : Mem) : Prop := OnT C0 R0 C R ∧ ((∃ kd p, q ≤ p ∧ Gd n kd p C R ∧ P) ∨ FB C R)
theorem S3_mono {n q q' : Nat} {P P' : Prop} {C0 R0 C R : Mem} (h : S3 n q P C0 R0 C R) (hq : q' ≤ q) (hP : P → P') : S3 n q' P' C0 R0 C R := by
  obtain ⟨h1, h2⟩ := h
  refine ⟨h1, ?_⟩
  rcases h2 with ⟨kd, p, z1, z2, z3⟩ | h2
  · exact Or.inl ⟨kd, p, by omega, z2, hP z3⟩
  · exact Or.inr h2
/-! kinds -/
theorem Tok_kd {n kd : Nat} {C R : Mem} (h : Tok n kd C R) : kd ≠ 24 ∧ kd < 64 ∧ 1 ≤ kd := by
  obtain ⟨-, h⟩ := h
  rcases h with ⟨rfl, -⟩ | ⟨rfl, -⟩ | ⟨z1, z2, -⟩ | ⟨rfl, -⟩ | ⟨z, -⟩
  · omega
  · omega
  · omega
  · omega
  · have := isSg_rng z
    omega
theorem Tok_4 {n kd : Nat} {C R : Mem} (h : Tok n kd C R) : n32 (C 40 4) = (kd : Int) := by
  have := Tok_kd h
  rw [h.1, n32_nat (by omega)]
theorem Tok_8 {n kd : Nat} {C R : Mem} (h : Tok n kd C R) : ∃ k : Nat, R 81 8 = (k : Int) ∧ k ≠ 1 ∧ k < 6 ∧ (k = 2 ↔ kd = 21) ∧ (k = 0 ↔ kd = 23) ∧ (k = 4 ↔ kd = 22) ∧ (k = 3 ↔ kd ≤ 20) ∧ (k = 5 ↔ 40 ≤ kd) := by
  have hh := Tok_kd h
  obtain ⟨-, h⟩ := h
  rcases h with ⟨rfl, e⟩ | ⟨rfl, e, -⟩ | ⟨z1, z2, e, -⟩ | ⟨rfl, e, -⟩ | ⟨z, e, -⟩
  · exact ⟨0, e, by omega⟩
  · exact ⟨2, e, by omega⟩
  · exact ⟨3, e, by omega⟩
  · exact ⟨4, e, by omega⟩
  · have := isSg_rng z
    exact ⟨5, e, by omega⟩
theorem Tok_not23 {n kd : Nat} {C R : Mem} (h : Tok n kd C R) : kd ≠ 23 → R 81 8 ≠ 0 := by
  obtain ⟨k, e, -, -, -, h0, -⟩ := Tok_8 h
  intro hk z
  have : k = 0 := by omega
  exact hk (h0.mp this)
theorem WN_lt {j : Nat} (hj : j < 20) : WN j < 2 ^ 63 := w256_63 (kw_tab j hj).2
theorem WN_inj {i j : Nat} (hi : i < 20) (hj : j < 20) (h : WN i = WN j) : i = j := kw_inj i hi j hj (w256_inj _ _ _ (Nat.le_refl _) h)
theorem isWord_tok {n kd : Nat} {C R : Mem} (h : Tok n kd C R) {j : Nat} (hj : j < 20) : M_isWord ((WN j : Nat) : Int) R = some (if kd = j + 1 then 1 else 0) := by
  obtain ⟨k, e, -, h6, -, -, -, h3, -⟩ := Tok_8 h
  have hh := Tok_kd h
  unfold M_isWord
  rw [e, n32_nat (by omega)]
  by_cases q : kd ≤ 20
  · have hk : k = 3 := h3.mpr q
    subst hk
    have hw : R 81 10 = ((WN (kd - 1) : Nat) : Int) := by
      obtain ⟨-, h⟩ := h
      rcases h with ⟨rfl, -⟩ | ⟨rfl, -⟩ | ⟨z1, z2, z3, z4⟩ | ⟨rfl, -⟩ | ⟨z, -⟩
      · omega
      · omega
      · exact z4
      · omega
      · have := isSg_rng z
        omega
    rw [hw]
    by_cases q2 : kd = j + 1
    · subst q2
      rw [if_pos ⟨rfl, rfl⟩, if_pos rfl]
    · rw [if_neg q2, if_neg]
      rintro ⟨-, z⟩
      rw [n64_nat (WN_lt (by omega)) (WN_lt hj)] at z
      have := WN_inj (by omega) hj z
      omega
  · have hk : k ≠ 3 := fun z => q (h3.mp z)
    rw [if_neg (by rintro ⟨z, -⟩; omega), if_neg (by omega)]
theorem isWord_any {w : Int} {R : Mem} : ∃ r, M_isWord w R = some r ∧ (r = 0 ∨ r = 1) := by
  unfold M_isWord
  split
  · exact ⟨1, rfl, Or.inr rfl⟩
  · exact ⟨0, rfl, Or.inl rfl⟩
theorem isWord_bad {w p : Int} {R : Mem} (h : BadT R p) : M_isWord w R = some 0 := by
  unfold M_isWord
  rw [h.2.1, if_neg (by rintro ⟨z, -⟩; exact absurd z (by decide))]
section STN
variable {n : Nat} {C0 R0 C R : Mem}
theorem OnT_TXc (hB : TB n C0 R0) (h : OnT C0 R0 C R) (h2 : C 40 2 = (n : Int)) : TXc n C := ⟨hB.1, h2, fun i hi => by rw [h.1 _ _ (by decide)]; exact hB.2.1 i hi⟩
theorem OnT_TXr (hB : TB n C0 R0) (h : OnT C0 R0 C R) : TXr n C R := ⟨by rw [h.2 _ _ (by omega)]; exact hB.2.2.1, fun i hi => by rw [h.2 _ _ (by omega), h.1 _ _ (by decide)]; exact hB.2.2.2.1 i hi⟩
theorem OnT_Kept (hB : TB n C0 R0) (h : OnT C0 R0 C R) : KeptR C := fun i hi => by rw [h.1 _ _ (by decide)]; exact hB.2.2.2.2 i hi
/-- the sign where the reference's token begins, be it good or not -/
theorem sgn_any (hB : TB n C0 R0) (h : OnT C0 R0 C R) {k : Nat} (hk : k < 2000) : M_sign (k : Int) R = some (if k < n then u8 (C0 2 k) else 0) := by
  unfold M_sign
  rw [h.2 81 3 (by omega), hB.2.2.1, n32_nat (by omega), n32_nat (by have := hB.1; omega)]
  by_cases q : k < n
  · obtain ⟨t1, t2⟩ := hB.2.1 k q
    rw [if_pos (by omega), if_pos q, chk_pos (by have := hB.1; omega), tn_nat, h.2 83 _ (by omega), hB.2.2.2.1 k q, u8_eq t1 t2]
  · rw [if_neg (by omega), if_neg q]
theorem stands_tok (hB : TB n C0 R0) (h : OnT C0 R0 C R) {kd : Nat} (hT : Tok n kd C R) {q : Nat} (hq : q ≤ 1600) (h6 : R 81 6 = (q : Int)) {c : Nat} (hc : isSg (c : Int) = true) : M_stands (c : Int) R = some (if kd = c then 1 else 0) := by
  obtain ⟨k, e, -, h6', -, -, -, -, h5⟩ := Tok_8 hT
  have hh := Tok_kd hT
  have hcr := isSg_rng hc
  unfold M_stands
  rw [e, n32_nat (by omega)]
  by_cases q5 : 40 ≤ kd
  · have hk : k = 5 := h5.mpr q5
    subst hk
    have hw : isSg (kd : Int) = true ∧ ∃ p : Nat, p < n ∧ R 81 6 = (p : Int) ∧ C 2 p = (kd : Int) := by
      obtain ⟨-, hT⟩ := hT
      rcases hT with ⟨rfl, -⟩ | ⟨rfl, -⟩ | ⟨z1, z2, -⟩ | ⟨rfl, -⟩ | ⟨z, -, z2⟩
      · omega
      · omega
      · omega
      · omega
      · exact ⟨z, z2⟩
    obtain ⟨hs, p, hp, hp6, hp2⟩ := hw
    obtain rfl : p = q := by omega
    have hp2' : C0 2 p = (kd : Int) := by rw [← h.1 _ _ (by decide)]; exact hp2
    have hr := isSg_rng hs
    rw [if_pos (by decide), h6, sgn_any hB h (by omega), if_pos hp, hp2', bind_some', show u8 (kd : Int) = (kd : Int) from by unfold u8; rw [if_pos (by omega)], n32_nat (by omega), n32_nat (by omega)]
    by_cases q2 : kd = c
    · subst q2
      rw [if_pos rfl, bind_some', if_pos rfl, if_pos rfl]
    · rw [if_neg (by omega), bind_some', if_neg (by decide), if_neg q2]
  · have hk : k ≠ 5 := fun z => q5 (h5.mp z)
    rw [if_neg (by omega), bind_some', if_neg (by decide), if_neg (by omega)]
theorem stands_any (hB : TB n C0 R0) (h : OnT C0 R0 C R) {q : Nat} (hq : q ≤ 1600) (h6 : R 81 6 = (q : Int)) (c : Int) : ∃ r, M_stands c R = some r ∧ (r = 0 ∨ r = 1) := by
  unfold M_stands
  by_cases q5 : n32 (R 81 8) = 5
  · rw [if_pos q5, h6, sgn_any hB h (by omega), bind_some']
    generalize (if q < n then u8 (C0 2 q) else 0) = s
    by_cases e : n32 s = n32 c
    · rw [if_pos e]
      exact ⟨1, rfl, Or.inr rfl⟩
    · rw [if_neg e]
      exact ⟨0, rfl, Or.inl rfl⟩
  · rw [if_neg q5]
    exact ⟨0, rfl, Or.inl rfl⟩
theorem stands_bad {p : Int} (h : BadT R p) (c : Int) : M_stands c R = some 0 := by
  unfold M_stands
  rw [h.2.1, if_neg (by decide)]
  rfl
/-! failing, class -/
theorem bk_fail (h : C 40 4 = 24) (f : Int) : K_fail f C = some C := by
  unfold K_fail
  rw [h, if_neg (by decide)]
theorem bk_pass (h : C 40 4 = 24) : K_pass C = some C := by
  unfold K_pass
  rw [h, if_pos (by decide)]
theorem bk_expect (h : C 40 4 = 24) {w : Nat} (hw : w ≠ 24) (hw2 : w < 100) : K_expect (w : Int) C = some C := by
  unfold K_expect
  rw [h, n32_nat (by omega), show n32 24 = 24 by decide, if_neg (by omega), bk_fail h]
  rfl
theorem bk_sees (h : C 40 4 = 24) : N_seesName C = some (0, C) := by
  unfold N_seesName
  rw [h, if_pos (by decide), bk_fail h, bind_some', bind_some', h, if_neg (by decide)]
theorem bk_take (h : C 40 4 = 24) : N_takeName C = some (C 40 7, C) := by
  unfold N_takeName
  rw [lt1_eq, bk_pass h]
  rfl
theorem bk_new (h : C 40 4 = 24) : N_readNewOfFactsAndRows C = some (C 40 7, C) := by
  unfold N_readNewOfFactsAndRows
  rw [bk_sees h, bind_some']
  dsimp only
  rw [if_neg nz0, bind_some', bk_take h]
  rfl
theorem bk_small (h : C 40 4 = 24) : N_readSmall C = some (C 40 6, C) := by
  unfold N_readSmall
  rw [h, if_pos (by decide), bk_fail h, bind_some', bind_some', lt1_eq, bk_pass h]
  rfl
theorem bk_person (h : C 40 4 = 24) : N_seePerson C = some (-1, C) := by
  unfold N_seePerson
  rw [bk_sees h, bind_some']
  dsimp only
  rw [if_neg nz0, bind_some', if_pos (by decide), bk_fail h]
  rfl
theorem bk_bit (h : C 40 4 = 24) (k : Int) : N_readFactBit k C = some (0, C) := by
  unfold N_readFactBit
  rw [bk_sees h, bind_some']
  dsimp only
  rw [if_neg nz0, bind_some', if_pos (by decide), bk_fail h]
  rfl
theorem bk_known (h : C 40 4 = 24) : N_readKnown C = some (0, C) := by
  have e : it N_readKnown_b8 FUEL (0, 0, C) = some (0, C) := by
    refine it_for (fun _ => (0, 0, C)) 0 (by unfold FUEL; omega) rfl (fun i hi => by omega) ?_
    unfold N_readKnown_b8
    dsimp only
    rw [h, if_neg (by rintro ⟨-, z⟩; exact absurd z (by decide))]
  unfold N_readKnown
  rw [bk_bit h, bind_some']
  dsimp only
  rw [e]
  rfl
/-! failing, reference -/
theorem fl_good {f p : Int} (h : Flt R f p) : M_isGood R = some 0 := by
  obtain ⟨h1, h2, h3, h4⟩ := h
  unfold M_isGood
  rw [h1, n32_of (by omega) (by omega), if_neg (by omega)]
theorem gd_good (h : R 81 4 = 0) : M_isGood R = some 1 := by
  unfold M_isGood
  rw [h, if_pos (by decide)]
theorem fl_fails {f p : Int} (h : Flt R f p) (a b : Int) : M_fails a b R = some R := by
  obtain ⟨h1, h2, h3, h4⟩ := h
  unfold M_fails
  rw [h1, n32_of (by omega) (by omega), if_pos h3]
theorem gd_fails (h : R 81 4 = 0) (a b : Int) : M_fails a b R = some (up (up R 81 4 a) 81 5 b) := by
  unfold M_fails
  rw [h, if_neg (by decide), lt1_eq, lt1_eq]
theorem bad_misp {p : Int} (h : BadT R p) : M_misplaced R = some (up (up R 81 4 1) 81 5 p) := by
  obtain ⟨h1, h2, h3⟩ := h
  unfold M_misplaced
  rw [h2, if_pos (by decide), bind_some', gd_fails h1, h3]
  rfl
theorem tok_misp {kd p : Nat} (h : R 81 4 = 0) (hT : Tok n kd C R) (h6 : R 81 6 = (p : Int)) : M_misplaced R = some (up (up R 81 4 2) 81 5 (p : Int)) := by
  obtain ⟨k, e, h1, hk, -⟩ := Tok_8 hT
  unfold M_misplaced
  rw [e, n32_nat (by omega), if_neg (by omega), bind_some', gd_fails h, h6]
  rfl
theorem up45_flt {R : Mem} {f p : Int} (h1 : 0 < f) (h2 : f < 10) : Flt (up (up R 81 4 f) 81 5 p) f p := ⟨by rw [up_k (by decide), up_eq], up_eq, h1, h2⟩
theorem up45_6 {R : Mem} {f p : Int} : up (up R 81 4 f) 81 5 p 81 6 = R 81 6 := by rw [up_k (by decide), up_k (by decide)]
theorem up45_on (h : OnT C0 R0 C R) (f p : Int) : OnT C0 R0 C (up (up R 81 4 f) 81 5 p) := ⟨h.1, fun c k z => by rw [up_at, if_neg (by omega), up_at, if_neg (by omega)]; exact h.2 c k z⟩
theorem fl_must {f p : Int} (h : Flt R f p) (r : Int) : M_must r R = some R := by
  unfold M_must
  rw [fl_good h, bind_some', if_pos (by decide)]
/-- the class fails at a good token -/
def failC (C : Mem) (f : Int) : Mem := up (up (up C 40 4 24) 40 8 f) 40 9 (C 40 5)
theorem gd_failC {kd p : Nat} (h : Gd n kd p C R) (f : Int) : K_fail f C = some (failC C f) := by
  unfold K_fail failC
  have hk := Tok_kd h.2.2.2.2.2
  rw [Tok_4 h.2.2.2.2.2, if_pos (by omega), lt1_eq, lt1_eq, lt1_eq, up_k (by decide), up_k (by decide)]
theorem failC_on (h : OnT C0 R0 C R) (f : Int) : OnT C0 R0 (failC C f) R := ⟨fun c k z => by unfold failC; rw [up_c z, up_c z, up_c z]; exact h.1 c k z, h.2⟩
theorem failC_at {f : Int} : failC C f 40 4 = 24 ∧ failC C f 40 8 = f ∧ failC C f 40 9 = C 40 5 := by
  unfold failC
  exact ⟨by rw [up_k (by decide), up_k (by decide), up_eq], by rw [up_k (by decide), up_eq], up_eq⟩
/-- both fail at one good token -/
theorem both_fail (hB : TB n C0 R0) {kd p : Nat} (h : Gd n kd p C R) {f : Int} (h1 : 0 < f) (h2 : f < 10) : FB (failC C f) (up (up R 81 4 f) 81 5 (p : Int)) := by
  obtain ⟨-, -, h5, h6, ⟨e, z1, z2, -⟩, -⟩ := h
  obtain ⟨q1, q2, q3⟩ := failC_at (C := C) (f := f)
  exact ⟨f, (p : Int), ⟨q1, q2, by rw [q3]; exact h5⟩, ⟨p, by have := hB.1; omega, by rw [up45_6]; exact h6⟩, Or.inl (up45_flt h1 h2)⟩
theorem pass_ok (hB : TB n C0 R0) (h : OnT C0 R0 C R) {kd p : Nat} (g : Gd n kd p C R) : ∃ C' R', K_pass C = some C' ∧ M_goOn R = some R' ∧ S3 n (if kd = 23 then p else p + 1) True C0 R0 C' R' := by
  obtain ⟨g2, ⟨g3, g4, g5, g6⟩, g7, g8, ⟨e, e1, e2, e3, e4, e5⟩, gT⟩ := g
  have hk := Tok_kd gT
  obtain ⟨C', R', p', k1, k2, k3, k4, k5, k6, k7, k8, k9, k10⟩ := lex (OnT_TXc hB h g2) (OnT_TXr hB h) (OnT_Kept hB h) e2 e4 e5 (by rw [Tok_4 gT]; omega)
  refine ⟨C', R', k1, k2, ⟨fun c k z => (k3 c k z).trans (h.1 c k z), fun c k z => (k5 c k (by omega)).trans (h.2 c k z)⟩, ?_⟩
  rcases k10 with ⟨kd', e', z1, z2, z3, z4, z5, z6, z7, z8⟩ | ⟨z1, z2, z3, z4⟩
  · refine Or.inl ⟨kd', p', ?_, ⟨k4, ⟨by rw [k5 _ _ (by omega)]; exact g3, by rw [k5 _ _ (by omega)]; exact g4, z6.trans g5, z7.trans g6⟩, k8, k9, ⟨e', z1, z2, z3, z4, z5⟩, z8⟩, trivial⟩
    split
    · omega
    · have := e3 (by assumption); omega
  · exact Or.inr ⟨1, (p' : Int), ⟨z1, z2, z3⟩, ⟨p', by have := hB.1; omega, k9⟩, Or.inr ⟨rfl, by rw [k5 _ _ (by omega)]; exact g3, z4, k9⟩⟩
/-- what is expected stands there, or both fail -/
theorem must_ok (hB : TB n C0 R0) {q w : Nat} {P : Prop} {r : Int} (hw : w ≠ 24) (hw2 : w < 100) (hw3 : w ≠ 23) (h : S3 n q P C0 R0 C R) (hg : ∀ kd p, Gd n kd p C R → r = if kd = w then 1 else 0) (hb : ∀ p, BadT R p → r = 0) : ∃ C' R', K_expect (w : Int) C = some C' ∧ M_must r R = some R' ∧ S3 n q P C0 R0 C' R' := by
  obtain ⟨hon, ⟨kd, p, hq, g, hP⟩ | ⟨f, p, ⟨c1, c2, c3⟩, ⟨q2, q3, q4⟩, hf | ⟨rfl, hbad⟩⟩⟩ := h
  · have hk := Tok_kd g.2.2.2.2.2
    unfold K_expect M_must
    rw [Tok_4 g.2.2.2.2.2, n32_nat (by omega), gd_good g.2.1.1, bind_some', if_neg nz1, hg kd p g]
    by_cases e : kd = w
    · subst e
      obtain ⟨C', R', k1, k2, k3⟩ := pass_ok hB hon g
      rw [if_pos rfl, k1, if_pos rfl, if_pos nz1, k2]
      refine ⟨_, _, rfl, rfl, ?_⟩
      rw [if_neg hw3] at k3
      exact S3_mono k3 (by omega) (fun _ => hP)
    · rw [if_neg (by omega), gd_failC g, if_neg e, if_neg nz0, tok_misp g.2.1.1 g.2.2.2.2.2 g.2.2.2.1]
      exact ⟨_, _, rfl, rfl, up45_on (failC_on hon _) _ _, Or.inr (both_fail hB g (by decide) (by decide))⟩
  · rw [bk_expect c1 hw hw2, fl_must hf]
    exact ⟨_, _, rfl, rfl, hon, Or.inr ⟨f, p, ⟨c1, c2, c3⟩, ⟨q2, q3, q4⟩, Or.inl hf⟩⟩
  · unfold M_must
    rw [bk_expect c1 hw hw2, gd_good hbad.1, bind_some', if_neg nz1, hb p hbad, if_neg nz0, bad_misp hbad]
    exact ⟨_, _, rfl, rfl, up45_on hon _ _, Or.inr ⟨1, p, ⟨c1, c2, c3⟩, ⟨q2, q3, by rw [up45_6]; exact q4⟩, Or.inl (up45_flt (by decide) (by decide))⟩⟩
theorem must_sign (hB : TB n C0 R0) {q w : Nat} {P : Prop} (hw : isSg (w : Int) = true) (h : S3 n q P C0 R0 C R) : ∃ r C' R', M_stands (w : Int) R = some r ∧ K_expect (w : Int) C = some C' ∧ M_must r R = some R' ∧ S3 n q P C0 R0 C' R' := by
  have hr := isSg_rng hw
  have hst : ∃ r, M_stands (w : Int) R = some r := by
    obtain ⟨hon, ⟨kd, p, hq, g, hP⟩ | ⟨f, p, -, ⟨q2, q3, q4⟩, -⟩⟩ := h
    · obtain ⟨-, -, -, h6, ⟨e, e1, e2, -⟩, -⟩ := g
      obtain ⟨r, hr, -⟩ := stands_any hB hon (q := p) (by have := hB.1; omega) h6 (w : Int)
      exact ⟨r, hr⟩
    · obtain ⟨r, hr, -⟩ := stands_any hB hon q3 q4 (w : Int)
      exact ⟨r, hr⟩
  obtain ⟨r, hst⟩ := hst
  obtain ⟨C', R', k1, k2, k3⟩ := must_ok (w := w) (r := r) hB (by omega) (by omega) (by omega) h (fun kd p g => by
    obtain ⟨-, -, -, h6, ⟨e, e1, e2, -⟩, gT⟩ := g
    have := stands_tok hB h.1 gT (q := p) (by have := hB.1; omega) h6 hw
    rw [hst] at this
    exact Option.some.inj this) (fun p hb => by
    have := stands_bad hb (w : Int)
    rw [hst] at this
    exact Option.some.inj this)
  exact ⟨r, C', R', hst, k1, k2, k3⟩
theorem must_word (hB : TB n C0 R0) {q j : Nat} {P : Prop} (hj : j < 20) (h : S3 n q P C0 R0 C R) : ∃ r C' R', M_isWord ((WN j : Nat) : Int) R = some r ∧ K_expect ((j + 1 : Nat) : Int) C = some C' ∧ M_must r R = some R' ∧ S3 n q P C0 R0 C' R' := by
  obtain ⟨r, hst, -⟩ := isWord_any (w := ((WN j : Nat) : Int)) (R := R)
  obtain ⟨C', R', k1, k2, k3⟩ := must_ok (w := j + 1) (r := r) hB (by omega) (by omega) (by omega) h (fun kd p g => by
    have := isWord_tok g.2.2.2.2.2 hj
    rw [hst] at this
    exact Option.some.inj this) (fun p hb => by
    have := isWord_bad (w := ((WN j : Nat) : Int)) hb
    rw [hst] at this
    exact Option.some.inj this)
  exact ⟨r, C', R', hst, k1, k2, k3⟩
end STN
