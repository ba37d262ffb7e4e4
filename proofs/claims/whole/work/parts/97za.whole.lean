/-! ===== expressions: from the first token to the last ===== -/
def eR (R : Mem) : Mem := pushR 0 8 0 0 (up (up R 81 42 0) 81 41 0)
def EG (md t b n bare : Nat) (C R : Mem) (s h q : Nat) (C' R' : Mem) : Prop := ∃ u' s' h' kd' p' : Nat, XF t b s C R C' R' ∧ (C' t 5 = (u' : Int) ∧ R' 90 b = (u' : Int) ∧ u' ≤ 80) ∧ (C' 28 1 = (s' : Int) ∧ R' 81 40 = ((900 * b + s' : Nat) : Int) ∧ s' ≤ 720) ∧ XHm md bare h' C' R' ∧ K45 R R' ∧ h' ≤ 1 ∧ Gd n kd' p' C' R' ∧ q < p' ∧ Old b s C R C' R' ∧ s ≤ s' ∧ Stps md b bare h' s s' C R C' R' ∧ hR (R' 106) (900 * b + s) (s' - s) 0 = some 1 ∧ s' ≤ 9 * u' ∧ h ≤ h'
def EF (md b : Nat) (R : Mem) (s : Nat) (C' R' : Mem) : Prop := ∃ f q, DmC (DM md) C' f q ∧ FBr R' f q ∧ RE b s R R' ∧ K45 R R'
section WHOLE
variable {md t b n bare : Nat} {C R : Mem}
theorem e_start (hst : R 81 40 = R 81 40) : M_e R = (it M_e_b20 FUEL (1, eR R)).bind fun M => some M := by
  have h := push_eq (what := 0) (sign := 0) (nn := 0) (R := up (up R 81 42 0) 81 41 0) (m := 0) (by rw [up_k (by decide), up_eq]; rfl) (by decide) 8 0 0
  unfold M_e
  rw [lt1_eq, lt1_eq, h, bind_some']
  rfl
theorem eR_o {a k : Nat} (h : ¬ ((a = 108 ∨ a = 109 ∨ a = 110) ∧ k = 0) ∧ ¬ (a = 81 ∧ (k = 41 ∨ k = 42))) : eR R a k = R a k := by
  unfold eR
  rw [pushR_o (by omega), up_at, if_neg (by omega), up_at, if_neg (by omega)]
theorem XS_eR {u s : Nat} (hu : C t 5 = (u : Int) ∧ R 90 b = (u : Int) ∧ u ≤ 80) (hs : C 28 1 = (s : Int) ∧ R 81 40 = ((900 * b + s : Nat) : Int) ∧ s ≤ 720) : XS t b s C R u s 1 0 C (eR R) := by
  refine ⟨⟨fun a k z => rfl, fun a k z => eR_o (by omega)⟩, ⟨⟨hu.1, by rw [eR_o (by omega)]; exact hu.2.1, hu.2.2⟩, ⟨hs.1, by rw [eR_o (by omega)]; exact hs.2.1, hs.2.2⟩, pushR_m.2.2.2, ?_⟩, ⟨by omega, pushR_m.1, fun k z1 z2 => by omega⟩, Nat.le_refl _⟩
  unfold eR
  rw [pushR_o (by omega), up_eq]
  rfl
theorem e_end {s0 : Nat} {C0 R0 : Mem} (hEnv : EnvX md t b n bare C0 R0) {u s kd p f : Nat} (hX : XS t b s0 C0 R0 u s 1 0 C R) (g : Gd n kd p C R) (hr : rkM md kd = 0) : it M_e_b20 (f + 2) (0, R) = some (up R 81 42 0) := by
  have hrank := rank_m hEnv hX g
  rw [hr] at hrank
  obtain ⟨⟨f1, f2⟩, ⟨⟨n1, n2, n3⟩, ⟨n4, n5, n6⟩, n7, n8⟩, hP, hs0⟩ := id hX
  have e29 : it (M_behindUnit_b29 ((0 : Nat) : Int)) FUEL R = some R := by
    rw [show FUEL = 9999999 + 1 from rfl]
    exact it_last (pop_end hP (by omega) n7 (by decide) (by rw [show 1 - 1 = 0 by omega, hP.2.1]; omega))
  have hstep := e_beh g.2.1.1 n7 (by omega) (by omega)
  rw [beh_go hrank (by decide) (fun z => by omega), e29, bind_some'] at hstep
  unfold behK at hstep
  rw [if_neg (by decide), lt1_eq, n7, up_eq, show ((1 : Nat) : Int) - 1 = ((0 : Nat) : Int) by omega, chk_pos (by omega), tn_nat, up_c (show (108 : Nat) ≠ 81 by decide), hP.2.1, if_neg (by decide), bind_some', bind_some'] at hstep
  rw [it_step hstep]
  refine it_last ?_
  unfold M_e_b20
  dsimp only
  rw [gd_good (by rw [up_k (by decide)]; exact g.2.1.1), bind_some', up_eq, if_neg (fun z => absurd z.2 (by decide))]
  rfl
theorem e_whole (hEnv : EnvX md t b n bare C R) (hb : b < 2) {u s h q mx : Nat} {P : Prop} {read : Mem → Option Mem} (hsim : SimG md t b n s bare C R 0 1 mx 1 Tp1 (fun k => rkM md k ≠ 0) 1 read) (hmx : mx ≤ 25) (hbrk : ∀ C, C 40 4 = 24 → read C = some C) (hu : C t 5 = (u : Int) ∧ R 90 b = (u : Int) ∧ u ≤ 80) (hs : C 28 1 = (s : Int) ∧ R 81 40 = ((900 * b + s : Nat) : Int) ∧ s ≤ 720) (hs9 : s ≤ 9 * u) (hH : XHm md bare h C R) (hh : h ≤ 1) (hq : q ≤ 1605) (hst : GF n q P C R) : ∃ C' R', read C = some C' ∧ M_e R = some R' ∧ (EG md t b n bare C R s h q C' R' ∨ EF md b R s C' R') := by
  have ht := hEnv.2.1.1.1
  have ht2 : t = 3 ∨ t = 15 := ht
  have hX := XS_eR hu hs
  have e45 : eR R 81 45 = R 81 45 := eR_o (by omega)
  have hgf : GF n q P C (eR R) := GF_same hst (fun _ => rfl) (fun _ => rfl) (fun k z1 z2 => eR_o (by omega))
  have hH2 : XHm md bare h C (eR R) := fun z => by
    obtain ⟨a0, a1⟩ := hH z
    exact ⟨a0, fun y => ⟨(a1 y).1, e45.trans (a1 y).2.1, (a1 y).2.2⟩⟩
  have fin : ∀ {C' : Mem} {f q' : Int} {p0 : Nat}, DmC (DM md) C' f q' → Dn b s R p0 (1, eR R) f q' → ∃ R', M_e R = some R' ∧ EF md b R s C' R' := by
    intro C' f q' p0 h1 h2
    obtain ⟨j, R', j1, j2, j3, j4, j5, j6⟩ := h2
    refine ⟨R', ?_, f, q', h1, j4, j5, fun z => j6 (by dsimp only; rw [e45]; exact z)⟩
    rw [e_start rfl, it_mono j FUEL _ (by unfold FUEL; omega) j3, bind_some']
  rcases hgf with ⟨kd, p, z1, g, z3⟩ | ⟨f, q', ⟨c1, c2, c3⟩, hf⟩
  · obtain ⟨C', w1, w2⟩ := hsim C (eR R) u s h 1 kd p hX hH2 hh g (Nat.le_refl _) ⟨8, pushR_m.1, Or.inr rfl⟩ hs9
    rcases w2 with ⟨R', u', s', h', kd', p', k, v1, v2, v2k, v2b, v3, v4, v5, v6, v7, v8, v9, v10, v11, v12, v13, v14, v15, v16⟩ | ⟨f, q', v1, v2⟩
    · have hB := XF_TB hEnv.1 ht v1.1
      have hp' : p' ≤ 1600 := by
        obtain ⟨-, -, -, -, ⟨e, y1, y2, -⟩, -⟩ := v3
        have := hB.1
        omega
      have hend := e_end (f := FUEL - 2 - k) hEnv v1 v3 (Classical.byContradiction v15)
      have hrun := v4 (FUEL - 1 - k)
      rw [show FUEL - 1 - k + 1 + k = FUEL by unfold FUEL; omega, show FUEL - 1 - k + 1 = FUEL - 2 - k + 2 by unfold FUEL; omega, hend] at hrun
      obtain ⟨⟨f1, f2⟩, ⟨⟨n1, n2, n3⟩, ⟨n4, n5, n6⟩, n7, n8⟩, hP, hs0⟩ := id v1
      have o : ∀ a k, ¬ (a = 81 ∧ k = 42) → up R' 81 42 0 a k = R' a k := fun a k z => by rw [up_at, if_neg z]
      refine ⟨C', up R' 81 42 0, w1, by rw [e_start rfl, hrun, bind_some'], Or.inl ⟨u', s', h', kd', p', ⟨f1, fun a k z => by rw [o a k (by omega)]; exact f2 a k z⟩, ⟨n1, by rw [o _ _ (by omega)]; exact n2, n3⟩, ⟨n4, by rw [o _ _ (by omega)]; exact n5, n6⟩, fun z => ?_, fun z => ?_, v2b, Gd_same v3 (fun _ => rfl) (fun _ => rfl) (fun k z1 z2 => o _ _ (by omega)), by omega, ⟨v8.1, fun j hj => ?_⟩, v9, fun i hi1 hi2 => Stp_mono (v10 i hi1 hi2) (Nat.le_refl _) v2b rfl ⟨o _ _ (by omega), o _ _ (by omega)⟩, ?_, by omega, v14⟩⟩
      · obtain ⟨a0, a1⟩ := v2 z
        exact ⟨a0, fun y => ⟨(a1 y).1, (o _ _ (by omega)).trans (a1 y).2.1, (a1 y).2.2⟩⟩
      · rw [o _ _ (by omega)]
        exact v2k (by rw [e45]; exact z)
      · rw [o _ _ (by omega), o _ _ (by omega), (v8.2 j hj).1, (v8.2 j hj).2, eR_o (by omega), eR_o (by omega)]
        exact ⟨rfl, rfl⟩
      · rw [hR_congr (fun i hi => o 106 _ (by omega))]
        exact v11 0 (by omega)
    · obtain ⟨R', r1, r2⟩ := fin (DmC_mono v1 (fun kd z => z.1)) v2
      exact ⟨C', R', w1, r1, Or.inr r2⟩
  · have hD : DmC (DM md) C f q' := ⟨⟨s, hs.2.2, hs.1⟩, Or.inl ⟨c1, c2, c3⟩⟩
    obtain ⟨R', r1, r2⟩ := fin hD (FB_Dn1 (p := q) hX hEnv hb (by omega) hq hf)
    exact ⟨C, R', hbrk C c1, r1, Or.inr r2⟩
theorem e_always (hEnv : EnvX 0 t b n bare C R) (hb : b < 2) {u s h q : Nat} {P : Prop} (hu : C t 5 = (u : Int) ∧ R 90 b = (u : Int) ∧ u ≤ 80) (hs : C 28 1 = (s : Int) ∧ R 81 40 = ((900 * b + s : Nat) : Int) ∧ s ≤ 720) (hs9 : s ≤ 9 * u) (hH : XHm 0 bare h C R) (hh : h ≤ 1) (hq : q ≤ 1605) (hst : GF n q P C R) : ∃ C' R', N_readE (N_readOne 10) 0 C = some C' ∧ M_e R = some R' ∧ (EG 0 t b n bare C R s h q C' R' ∨ EF 0 b R s C' R') := by
  have hb1 : ∀ C, C 40 4 = 24 → N_readOne 10 ((0 : Nat) : Int) C = some C := fun C => brk_one 10 _ C (by decide)
  have sE := e_sim (d := 0) hEnv (by omega) (alt_sim hEnv (by omega) (both_sim hEnv (by omega) (by omega) (one_sim (s0 := s) hEnv 7 0 (by omega)) hb1) (brk_both hb1)) (brk_alt hb1)
  exact e_whole hEnv hb sE (by omega) (brk_e hb1) hu hs hs9 hH hh hq hst
theorem e_law (hEnv : EnvX 1 t b n bare C R) (hb : b < 2) {u s q : Nat} {P : Prop} (hu : C t 5 = (u : Int) ∧ R 90 b = (u : Int) ∧ u ≤ 80) (hs : C 28 1 = (s : Int) ∧ R 81 40 = ((900 * b + s : Nat) : Int) ∧ s ≤ 720) (hs9 : s ≤ 9 * u) (hq : q ≤ 1605) (hst : GF n q P C R) : ∃ C' R', N_readF (N_readPart 10) 0 C = some C' ∧ M_e R = some R' ∧ (EG 1 t b n bare C R s 0 q C' R' ∨ EF 1 b R s C' R') := by
  have hb1 : ∀ C, C 40 4 = 24 → N_readPart 10 ((0 : Nat) : Int) C = some C := fun C => brk_part 10 _ C (by decide)
  have sF := f_sim (d := 0) hEnv (by omega) (any_sim hEnv (by omega) (sum_sim hEnv (by omega) (by omega) (part_sim (s0 := s) hEnv 7 0 (by omega)) hb1) (brk_sum hb1)) (brk_any hb1)
  exact e_whole hEnv hb sF (by omega) (brk_f hb1) hu hs hs9 (fun z => absurd z (by decide)) (by decide) hq hst
end WHOLE
