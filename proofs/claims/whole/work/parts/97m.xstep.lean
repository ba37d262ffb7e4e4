/-! ===== expressions: the reference behind a unit ===== -/
def rkE (kd : Nat) : Nat := if kd = 13 then 2 else if kd = 12 then 1 else if kd = 14 then 3 else 0
def rkL (kd : Nat) : Nat := if kd = 13 then 2 else if kd = 60 ∨ kd = 62 ∨ kd = 61 then 5 else if kd = 43 ∨ kd = 45 then 6 else 0
theorem wconst2 : ((WN 11 : Nat) : Int) = 26982 ∧ ((WN 12 : Nat) : Int) = 28530 ∧ ((WN 13 : Nat) : Int) = 6385252 ∧ ((WN 14 : Nat) : Int) = 7237492 ∧ ((WN 15 : Nat) : Int) = 448545973363 ∧ ((WN 16 : Nat) : Int) = 127991794264947 ∧ ((WN 17 : Nat) : Int) = 130220881569139 ∧ ((WN 18 : Nat) : Int) = 418497262196 ∧ ((WN 19 : Nat) : Int) = 1953064292 := by
  obtain ⟨-, -, -, -, -, -, -, -, -, -, -, w11, w12, w13, w14, w15, w16, w17, w18, w19⟩ := WN_tab
  rw [w11, w12, w13, w14, w15, w16, w17, w18, w19]
  exact ⟨rfl, rfl, rfl, rfl, rfl, rfl, rfl, rfl, rfl⟩
theorem n32_ite {p : Prop} [Decidable p] : (n32 (if p then (1 : Int) else 0) = 0) ↔ ¬ p := n10
section XST
variable {t b n s0 : Nat} {C0 R0 C R : Mem}
theorem rank_e {kd : Nat} (hT : Tok n kd C R) (h43 : R 81 43 = 0) : M_rankHere R = some (rkE kd : Int) := by
  have i12 := isWord_tok hT (j := 12) (by decide)
  have i11 := isWord_tok hT (j := 11) (by decide)
  have i13 := isWord_tok hT (j := 13) (by decide)
  rw [wconst2.2.1] at i12
  rw [wconst2.1] at i11
  rw [wconst2.2.2.1] at i13
  unfold M_rankHere rkE
  rw [i12, bind_some', h43, i11, i13]
  by_cases q1 : kd = 12 + 1
  · rw [if_pos q1, if_pos nz1, if_pos q1]; rfl
  · rw [if_neg q1, if_neg nz0, if_neg nz0, bind_some', if_neg q1]
    by_cases q2 : kd = 11 + 1
    · rw [if_pos q2, if_pos nz1, if_pos q2]; rfl
    · rw [if_neg q2, if_neg nz0, bind_some', if_neg q2]
      by_cases q3 : kd = 13 + 1
      · rw [if_pos q3, if_pos nz1, if_pos q3]; rfl
      · rw [if_neg q3, if_neg nz0, if_neg q3]; rfl
theorem rank_l (hB : TB n C0 R0) (hon : OnT C0 R0 C R) {kd q : Nat} (hT : Tok n kd C R) (hq : q ≤ 1600) (h6 : R 81 6 = (q : Int)) (h43 : R 81 43 = 1) : M_rankHere R = some (rkL kd : Int) := by
  have i12 := isWord_tok hT (j := 12) (by decide)
  rw [wconst2.2.1] at i12
  have st : ∀ c : Nat, isSg (c : Int) = true → M_stands (c : Int) R = some (if kd = c then 1 else 0) := fun c hc => stands_tok hB hon hT hq h6 hc
  have s60 := st 60 (by decide)
  have s62 := st 62 (by decide)
  have s61 := st 61 (by decide)
  have s43 := st 43 (by decide)
  have s45 := st 45 (by decide)
  rw [show ((60 : Nat) : Int) = 60 from rfl] at s60
  rw [show ((62 : Nat) : Int) = 62 from rfl] at s62
  rw [show ((61 : Nat) : Int) = 61 from rfl] at s61
  rw [show ((43 : Nat) : Int) = 43 from rfl] at s43
  rw [show ((45 : Nat) : Int) = 45 from rfl] at s45
  unfold M_rankHere rkL
  rw [i12, bind_some', h43, s60, s62, s61, s43, s45]
  by_cases q1 : kd = 12 + 1
  · rw [if_pos q1, if_pos nz1, if_pos q1]; rfl
  · rw [if_neg q1, if_neg nz0, if_pos nz1, bind_some', if_neg q1]
    have e1 : (if n32 (if kd = 60 then (1 : Int) else 0) = 0 then (some (if kd = 62 then (1 : Int) else 0)).bind fun r_8 => if n32 r_8 = 0 then (some (if kd = 61 then (1 : Int) else 0)).bind fun r_9 => if ¬ n32 r_9 = 0 then some true else some false else some true else some true) = some (decide (kd = 60 ∨ kd = 62 ∨ kd = 61)) := by
      by_cases a1 : kd = 60
      · rw [if_neg (by rw [n32_ite]; exact not_not_intro a1), decide_eq_true (Or.inl a1)]
      · rw [if_pos (by rw [n32_ite]; exact a1), bind_some']
        by_cases a2 : kd = 62
        · rw [if_neg (by rw [n32_ite]; exact not_not_intro a2), decide_eq_true (Or.inr (Or.inl a2))]
        · rw [if_pos (by rw [n32_ite]; exact a2), bind_some']
          by_cases a3 : kd = 61
          · rw [if_pos (by rw [n32_ite]; exact not_not_intro a3), decide_eq_true (Or.inr (Or.inr a3))]
          · rw [if_neg (by rw [n32_ite]; exact not_not_intro a3), decide_eq_false (by omega)]
    have e2 : (if n32 (if kd = 43 then (1 : Int) else 0) = 0 then (some (if kd = 45 then (1 : Int) else 0)).bind fun r_16 => if ¬ n32 r_16 = 0 then some true else some false else some true) = some (decide (kd = 43 ∨ kd = 45)) := by
      by_cases a1 : kd = 43
      · rw [if_neg (by rw [n32_ite]; exact not_not_intro a1), decide_eq_true (Or.inl a1)]
      · rw [if_pos (by rw [n32_ite]; exact a1), bind_some']
        by_cases a2 : kd = 45
        · rw [if_pos (by rw [n32_ite]; exact not_not_intro a2), decide_eq_true (Or.inr a2)]
        · rw [if_neg (by rw [n32_ite]; exact not_not_intro a2), decide_eq_false (by omega)]
    rw [e1, bind_some']
    by_cases q2 : kd = 60 ∨ kd = 62 ∨ kd = 61
    · rw [decide_eq_true q2, if_pos rfl, if_pos q2]; rfl
    · rw [decide_eq_false q2, if_neg (by decide), bind_some', e2, bind_some', if_neg q2]
      by_cases q3 : kd = 43 ∨ kd = 45
      · rw [decide_eq_true q3, if_pos rfl, if_pos q3]; rfl
      · rw [decide_eq_false q3, if_neg (by decide), if_neg q3]; rfl
theorem rank_bad {q : Int} (h : BadT R q) : M_rankHere R = some 0 := by
  unfold M_rankHere
  rw [isWord_bad h, bind_some', if_neg nz0, stands_bad h, stands_bad h, stands_bad h, stands_bad h, stands_bad h, isWord_bad h, isWord_bad h, bind_some']
  by_cases q : n32 (R 81 43) = 0
  · rw [if_neg (not_not_intro q), bind_some', if_neg nz0]
    rfl
  · rw [if_pos q]
    rfl
/-- the pops end, and where -/
theorem pops_end2 {r : Nat} (hr : r < 10) (hb : b < 2) : ∀ (m s : Nat) (R : Mem), XP m R → m ≤ 110 → s + m < 900 → R 81 42 = (m : Int) → R 81 40 = ((900 * b + s : Nat) : Int) → ∃ R2 m2, (∀ f, m + 1 ≤ f → it (M_behindUnit_b29 (r : Int)) f R = some R2) ∧ m2 ≤ m ∧ XP m2 R2 ∧ R2 81 42 = (m2 : Int) ∧ ¬ (R2 108 (m2 - 1) < 7 ∧ (r : Int) ≤ R2 108 (m2 - 1)) ∧ ∀ a k, ¬ (a = 81 ∧ (k = 40 ∨ k = 41 ∨ k = 42)) → ¬ ((a = 106 ∨ a = 107) ∧ 900 * b + s ≤ k) → R2 a k = R a k
  | 0, _, _, h, _, _, _, _ => by have := h.1; omega
  | m + 1, s, R, h, hm, hs, h42, h40 => by
    by_cases q : R 108 m < 7 ∧ (r : Int) ≤ R 108 m
    · have hm1 : 1 ≤ m := by
        refine Classical.byContradiction (fun z => ?_)
        obtain rfl : m = 0 := by omega
        have := h.2.1
        omega
      obtain ⟨R2, m2, h2, h3, h4, h5, h6, h7⟩ := pops_end2 hr hb m (s + 1) (popR b s (m + 1) R) (popR_XP h (by omega)) (by omega) (by omega) popR_42 popR_40
      refine ⟨R2, m2, fun f hf => ?_, by omega, h4, h5, h6, fun a k z1 z2 => (h7 a k z1 (by omega)).trans (popR_o (by omega))⟩
      obtain ⟨f, rfl⟩ : ∃ f', f = f' + 1 := ⟨f - 1, by omega⟩
      rw [it_step (pop_step h (by omega) hm hb (by omega) h42 h40 hr q.1 q.2)]
      exact h2 f (by omega)
    · refine ⟨R, m + 1, fun f hf => ?_, Nat.le_refl _, h, h42, q, fun _ _ _ _ => rfl⟩
      obtain ⟨f, rfl⟩ : ∃ f', f = f' + 1 := ⟨f - 1, by omega⟩
      exact it_last (pop_end h hm h42 hr q)
theorem RE_45 (h : RE b s0 R0 R) (f q : Int) : RE b s0 R0 (up (up R 81 4 f) 81 5 q) := fun a k z => by
  rw [up_at, if_neg (by omega), up_at, if_neg (by omega)]
  exact h a k z
theorem e_flt {v f q : Int} (hf : Flt R f q) : M_e_b20 (v, R) = some (.inr R) := by
  unfold M_e_b20
  dsimp only
  rw [fl_good hf, bind_some', if_neg (fun z => nz0 z.1)]
/-- a bad token behind a unit -/
theorem dn_bad0 (hb : b < 2) {u s m d p : Nat} {q : Int} (hX : XS t b s0 C0 R0 u s m d C R) (hm : m ≤ 100) (hp : p ≤ 1605) (hbad : BadT R q) (h6 : ∃ z : Nat, z ≤ 1600 ∧ R 81 6 = (z : Int)) : Dn b s0 R0 p (0, R) 1 q := by
  obtain ⟨⟨f1, f2⟩, ⟨⟨n1, n2, n3⟩, ⟨n4, n5, n6⟩, n7, n8⟩, hP, hs⟩ := hX
  have hg := hbad.1
  obtain ⟨R2, m2, e1, e2, e3, e4, e5, e6⟩ := pops_end2 (r := 0) (by decide) hb m s R hP (by omega) (by omega) n7 n5
  have hre : RE b s0 R0 R2 := fun a k z => by rw [e6 a k (by omega) (by omega)]; exact f2 a k z
  have t4 : R2 81 4 = 0 := (e6 _ _ (by omega) (by omega)).trans hbad.1
  have t8 : R2 81 8 = 1 := (e6 _ _ (by omega) (by omega)).trans hbad.2.1
  have t6 : R2 81 6 = q := (e6 _ _ (by omega) (by omega)).trans hbad.2.2
  obtain ⟨z6, z61, z62⟩ := h6
  have hm2 := e3.1
  obtain ⟨g1, g2⟩ := XP_rng e3 (show m2 - 1 < m2 by omega)
  have hbe : M_behindUnit R = behK 0 R2 := by
    have := beh_go (r := 0) (rank_bad hbad) (by decide) (fun z => by omega)
    rw [this, e1 FUEL (by unfold FUEL; omega)]
    rfl
  have hstep := e_beh hg n7 (by have := hP.1; omega) (by omega)
  rw [hbe] at hstep
  unfold behK at hstep
  have c42 : ∀ v, up R2 81 42 v 81 42 = v := fun v => up_eq
  rw [if_neg (by decide), lt1_eq, e4, c42, show (m2 : Int) - 1 = ((m2 - 1 : Nat) : Int) by omega, chk_pos (by omega), tn_nat, up_c (show (108 : Nat) ≠ 81 by decide), n32_of (a := R2 108 (m2 - 1)) (by omega) (by omega)] at hstep
  by_cases q7 : R2 108 (m2 - 1) = 7
  · generalize hR3 : up (up R2 81 42 ((m2 - 1 : Nat) : Int)) 81 41 (up R2 81 42 ((m2 - 1 : Nat) : Int) 81 41 - 1) = R3
    have o3 : ∀ a k, ¬ (a = 81 ∧ (k = 41 ∨ k = 42)) → R3 a k = R2 a k := fun a k z => by rw [← hR3, up_at, if_neg (by omega), up_at, if_neg (by omega)]
    have hbad3 : BadT R3 q := ⟨(o3 _ _ (by omega)).trans t4, (o3 _ _ (by omega)).trans t8, (o3 _ _ (by omega)).trans t6⟩
    have hmust : M_must 0 R3 = some (up (up R3 81 4 1) 81 5 q) := by
      unfold M_must
      rw [gd_good hbad3.1, bind_some', if_neg nz1, if_neg nz0, bad_misp hbad3]
      rfl
    rw [if_pos q7, lt1_eq, hR3, stands_bad hbad3, bind_some', hmust, bind_some', bind_some', bind_some'] at hstep
    refine ⟨2, _, by omega, by omega, by rw [it_step hstep]; exact it_last (e_flt (up45_flt (by decide) (by decide))), ⟨⟨z6, z61, by rw [up45_6, o3 _ _ (by omega), e6 _ _ (by omega) (by omega)]; exact z62⟩, Or.inl (up45_flt (by decide) (by decide))⟩, RE_45 (fun a k z => by rw [o3 a k (by omega)]; exact hre a k z) _ _, fun z => ?_⟩
    dsimp only at z
    rw [up_k (by decide), up_k (by decide), o3 _ _ (by omega), e6 _ _ (by omega) (by omega)]
    exact z
  · have hm1 : m2 = 1 := by
      refine Classical.byContradiction (fun z => ?_)
      have := e3.2.2 (m2 - 1) (by omega) (by omega)
      omega
    subst hm1
    rw [if_neg q7, bind_some', bind_some'] at hstep
    have elast : M_e_b20 (0, up R2 81 42 ((1 - 1 : Nat) : Int)) = some (.inr (up R2 81 42 ((1 - 1 : Nat) : Int))) := by
      unfold M_e_b20
      dsimp only
      rw [gd_good (by rw [up_k (by decide)]; exact t4), bind_some', up_eq, if_neg (fun z => absurd z.2 (by decide))]
    refine ⟨2, _, by omega, by omega, by rw [it_step hstep]; exact it_last elast, ⟨⟨z6, z61, by rw [up_k (by decide), e6 _ _ (by omega) (by omega)]; exact z62⟩, Or.inr ⟨rfl, by rw [up_k (by decide)]; exact t4, by rw [up_k (by decide)]; exact t8, by rw [up_k (by decide)]; exact t6⟩⟩, fun a k z => by rw [up_at, if_neg (by omega)]; exact hre a k z, fun z => ?_⟩
    dsimp only at z
    rw [up_k (by decide), e6 _ _ (by omega) (by omega)]
    exact z
/-- if, or a comparing, once more at one level -/
theorem dn_again {u s m d kd p r : Nat} (hX : XS t b s0 C0 R0 u s m d C R) (hm : m ≤ 100) (g : Gd n kd p C R) (hn : n ≤ 1600) (hr : M_rankHere R = some (r : Int)) (hr15 : r = 1 ∨ r = 5) (hag : agR r R m = true) : Dn b s0 R0 p (0, R) 2 (p : Int) := by
  obtain ⟨⟨f1, f2⟩, ⟨⟨n1, n2, n3⟩, ⟨n4, n5, n6⟩, n7, n8⟩, hP, hs⟩ := hX
  obtain ⟨-, ⟨g1, -⟩, -, g6, ⟨e, e1, e2, -⟩, gT⟩ := g
  have hstep := e_beh g1 n7 (by have := hP.1; omega) (by omega)
  rw [beh_again hr hr15 (by rw [isAgain_eq hP (by omega) n7 hr15, hag]; rfl), tok_misp g1 gT g6, bind_some', bind_some'] at hstep
  refine ⟨2, _, by omega, by omega, by rw [it_step hstep]; exact it_last (e_flt (up45_flt (by decide) (by decide))), ⟨⟨p, by omega, by rw [up45_6]; exact g6⟩, Or.inl (up45_flt (by decide) (by decide))⟩, RE_45 f2 _ _, fun z => ?_⟩
  dsimp only at z
  rw [up_k (by decide), up_k (by decide)]
  exact z
end XST
