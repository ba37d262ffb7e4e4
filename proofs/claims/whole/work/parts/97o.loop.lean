/-! ===== expressions: operations in a row ===== -/
def GJ (md t b n s0 bare : Nat) (C0 R0 : Mem) (mx : Nat) (Ex : Nat → Prop) (u s h m d p : Nat) (C R : Mem) (j : Nat) (C' : Mem) : Prop := ∃ R' u' s' h' kd' p' k, XS t b s0 C0 R0 u' s' m d C' R' ∧ XHm md bare h' C' R' ∧ K45 R R' ∧ h' ≤ 1 ∧ Gd n kd' p' C' R' ∧ Reach k (1, R) (0, R') ∧ p + k ≤ p' ∧ p < p' ∧ Pil m R R' ∧ Old b s C R C' R' ∧ s ≤ s' ∧ Stps md b bare h' s s' C0 R0 C' R' ∧ (∀ x, x + mx ≤ 25 → hR (R' 106) (900 * b + s) (s' - s) x = some (x + 1)) ∧ s' + 1 + 9 * u ≤ 9 * u' + s ∧ u + 1 + j ≤ u' ∧ h ≤ h' ∧ ¬ Ex kd' ∧ ¬ (DM md kd' ∧ agR (arM md) R m = true)
section LOOP
variable {md t b n s0 bare : Nat} {C0 R0 : Mem}
theorem GJ_0 {mx sl : Nat} {Ex : Nat → Prop} {u s h m d p : Nat} {C R C' : Mem} (hsl : 1 ≤ sl) (hg : GoodG md t b n s0 bare C0 R0 mx sl Ex u s h m d p C R 1 C') : GJ md t b n s0 bare C0 R0 (mx + 1) Ex u s h m d p C R 0 C' := by
  obtain ⟨R', u', s', h', kd', p', k, v1, v2, v2k, v2b, v3, v4, v5, v6, v7, v8, v9, v10, v11, v12, v13, v14, v15, v16⟩ := hg
  exact ⟨R', u', s', h', kd', p', k, v1, v2, v2k, v2b, v3, v4, v5, v6, v7, v8, v9, v10, fun x hx => v11 x (by omega), by omega, by omega, v14, v15, v16⟩
/-- one more operation behind what was read -/
theorem bin_more (hEnv : EnvX md t b n bare C0 R0) {d mbS mxS slS : Nat} {TopS ExS : Nat → Prop} {w : Nat} {sub : Mem → Option Mem} (hsub : SimG md t b n s0 bare C0 R0 d mbS mxS slS TopS ExS w sub) (hbrk : ∀ C, C 40 4 = 24 → sub C = some C) {r : Nat} (hr0 : 0 < r) (hmb : mbS ≤ 90) (hTopS : TopS r) (hrk : ∀ kd, ¬ ExS kd → ¬ (DM md kd ∧ arM md = r) → rkM md kd ≤ r) (hsl : 1 ≤ slS) {u s h m p j kd : Nat} {C R C1 : Mem} (hm0 : 1 ≤ m) (hm : m + 1 ≤ mbS) (hs9 : s ≤ 9 * u) (htop : ¬ (R 108 (m - 1) < 7 ∧ (r : Int) ≤ R 108 (m - 1))) (hag : (r = 1 ∨ r = 5) → agR r R m = false) (hh : h ≤ 1) (hkd : C1 40 4 = (kd : Int)) (hop : OpOK md kd r) (hg : GJ md t b n s0 bare C0 R0 (mxS + 1) ExS u s h m d p C R j C1) : ∃ C2 C3 C4, K_pass C1 = some C2 ∧ sub C2 = some C3 ∧ S_add (kd : Int) 0 C3 = some C4 ∧ (((∀ kd', ¬ ExS kd' → ¬ (DM md kd' ∧ ((r = arM md) ∨ ((r = 3 ∨ (r = 2 ∧ md = 0) ∨ r = 6) ∧ agR (arM md) R m = true))) → ¬ (DM md kd' ∧ agR (arM md) R m = true)) → GJ md t b n s0 bare C0 R0 (mxS + 1) (fun kd' => ExS kd' ∨ (DM md kd' ∧ ((r = arM md) ∨ ((r = 3 ∨ (r = 2 ∧ md = 0) ∨ r = 6) ∧ agR (arM md) R m = true)))) u s h m d p C R (j + 1) C4) ∨ FailG (fun kd' => DM md kd' ∧ (w = 1 ∨ (r = arM md) ∨ ((r = 3 ∨ (r = 2 ∧ md = 0) ∨ r = 6) ∧ agR (arM md) R m = true))) b s0 R0 p R 1 C4) := by
  obtain ⟨R1, u1, s1, h1, kd1, p1, k1, v1, v2, v2k, v2b, v3, v4, v5, v6, v7, v8, v9, v10, v11, v12, v13, v14, v15, v16⟩ := hg
  have e1 : kd1 = kd := by
    have := v3.2.2.2.2.2.1
    omega
  subst e1
  obtain ⟨y1, y2, y3⟩ := v7 (m - 1) (by omega)
  have eag : ∀ r, agR r R1 m = agR r R m := fun r => agR_congr (fun k hk => (v7 k hk).1)
  obtain ⟨C2, C3, C4, w1, w2, w3, w4⟩ := bin_step hEnv hsub hbrk hr0 hmb hTopS hrk hsl v1 v2 v2b v3 hop hm (by rw [y1]; exact htop) (fun z => by rw [eag]; exact hag z) (by omega)
  refine ⟨C2, C3, C4, w1, w2, w3, ?_⟩
  rcases w4 with ⟨R4, u4, s4, h4, kd4, p4, k4, a1, a2, a2k, a2b, a3, a4, a5, a6, a7, a8, a9, a10, a11, a12, a13, a14, a15, a16⟩ | ⟨f, q, a1, a2⟩
  · refine Or.inl (fun himp => ?_)
    rw [eag] at a16
    refine ⟨R4, u4, s4, h4, kd4, p4, k1 + k4, a1, a2, fun z => a2k (v2k z), a2b, a3, Reach_trans v4 a4, by omega, by omega, fun i hi => ?_, ⟨fun i hi => ?_, fun i hi => ?_⟩, by omega, fun i hi1 hi2 => ?_, fun x hx => ?_, by omega, by omega, by omega, ?_, himp kd4 a15 a16⟩
    · obtain ⟨z1, z2, z3⟩ := a7 i hi
      obtain ⟨x1, x2, x3⟩ := v7 i hi
      exact ⟨z1.trans x1, z2.trans x2, z3.trans x3⟩
    · exact (a8.1 i (by omega)).trans (v8.1 i hi)
    · exact ⟨(a8.2 i (by omega)).1.trans (v8.2 i hi).1, (a8.2 i (by omega)).2.trans (v8.2 i hi).2⟩
    · by_cases e : i < s1
      · exact Stp_mono (v10 i hi1 e) a14 a2b (a8.1 i e) (a8.2 _ (by omega))
      · exact a10 i (by omega) hi2
    · rw [show s4 - s = (s1 - s) + (s4 - s1) by omega, hR_add, show 900 * b + s + (s1 - s) = 900 * b + s1 by omega]
      have e2 : hR (R4 106) (900 * b + s) (s1 - s) x = hR (R1 106) (900 * b + s) (s1 - s) x := hR_congr (fun i hi => (a8.2 _ (by omega)).1)
      rw [e2, v11 x hx, bind_some']
      exact a11 x (by omega)
    · rintro (z | z)
      · exact a15 z
      · exact a16 z
  · rw [eag] at a1
    exact Or.inr ⟨f, q, a1, Dn_reach v4 v5 v2k a2⟩
/-- the class, failed or doomed: its token's kind -/
theorem DmC_kd {D : Nat → Prop} {C : Mem} {f q : Int} (h : DmC D C f q) : ∃ kd : Nat, C 40 4 = (kd : Int) ∧ (kd = 24 ∨ D kd) := by
  obtain ⟨-, ⟨h1, -⟩ | ⟨-, ⟨kd, h1, h2⟩, -⟩⟩ := h
  · exact ⟨24, h1, Or.inl rfl⟩
  · exact ⟨kd, h2, Or.inr h1⟩
theorem DM_rng {kd : Nat} (h : DM md kd) : kd < 100 := by
  unfold DM at h
  omega
theorem loop_A (hEnv : EnvX md t b n bare C0 R0) {d mbS mxS slS : Nat} {TopS ExS : Nat → Prop} {w : Nat} {sub : Mem → Option Mem} (hsub : SimG md t b n s0 bare C0 R0 d mbS mxS slS TopS ExS w sub) (hbrk : ∀ C, C 40 4 = 24 → sub C = some C) {r : Nat} (hr0 : 0 < r) (hmb : mbS ≤ 90) (hTopS : TopS r) (hrk : ∀ kd, ¬ ExS kd → ¬ (DM md kd ∧ arM md = r) → rkM md kd ≤ r) (hsl : 1 ≤ slS) {Op : Nat → Prop} (hOp : ∀ kd, Op kd → OpOK md kd r ∧ ¬ DM md kd ∧ kd ≠ 24) {body : Int × Mem → Option ((Int × Mem) ⊕ Mem)} (hgo : ∀ (j : Nat) C (kd : Nat), C 40 4 = (kd : Int) → Op kd → j < 80 → body ((j : Int), C) = (K_pass C).bind fun M => (sub M).bind fun M => (S_add (kd : Int) 0 M).bind fun M => some (.inl (((j + 1 : Nat) : Int), M))) (hex : ∀ (j : Nat) C (kd : Nat), C 40 4 = (kd : Int) → kd < 200 → j ≤ 80 → ¬ Op kd → body ((j : Int), C) = some (.inr C)) {mb : Nat} (hmbL : mb + 1 ≤ mbS) {Top : Nat → Prop} (hTop1 : ∀ x, Top x → TopS x ∧ ¬ (x < 7 ∧ r ≤ x)) (hag : r ≠ 1 ∧ r ≠ 5) (hagx : (r = 3 ∨ (r = 2 ∧ md = 0) ∨ r = 6) ∨ (arM md = 5 ∧ ∀ x, Top x → x ≠ 6 ∧ x ≠ 5)) {ExL : Nat → Prop} (hEx : ∀ kd, ¬ ExS kd → ¬ Op kd → ¬ ExL kd) {L : Mem → Option Mem} (hL : ∀ C, L C = (sub C).bind fun M => it body FUEL (0, M)) : SimG md t b n s0 bare C0 R0 d mb (mxS + 1) 1 Top ExL w L := by
  intro C R u s h m kd p hX hH hh g hm hT hs9
  have hm0 : 1 ≤ m := hX.2.2.1.1
  obtain ⟨x, hx1, hx2⟩ := hT
  obtain ⟨C1, w1, w2⟩ := hsub C R u s h m kd p hX hH hh g (by omega) ⟨x, hx1, (hTop1 x hx2).1⟩ hs9
  have hstart : GJ md t b n s0 bare C0 R0 (mxS + 1) ExS u s h m d p C R 0 C1 ∨ FailG (DW md w m R) b s0 R0 p R 1 C1 := by
    rcases w2 with w2 | w2
    · exact Or.inl (GJ_0 hsl w2)
    · exact Or.inr w2
  have key := it_Z (body := body) (a := ((0 : Int), C1)) (J := fun C' => (GoodG md t b n s0 bare C0 R0 (mxS + 1) 1 ExL u s h m d p C R 1 C' ∨ FailG (DW md w m R) b s0 R0 p R 1 C')) (fun j a => a.1 = (j : Int) ∧ (GJ md t b n s0 bare C0 R0 (mxS + 1) ExS u s h m d p C R j a.2 ∨ FailG (DW md w m R) b s0 R0 p R 1 a.2)) 80 (by unfold FUEL; omega) ⟨rfl, hstart⟩ ?_ ?_
  · obtain ⟨C', k1, k2⟩ := key
    exact ⟨C', by rw [hL, w1, bind_some', k1], k2⟩
  · rintro j ⟨a1, a2⟩ hj ⟨ha, hb⟩
    dsimp only at ha hb
    subst ha
    rcases hb with hg | hf
    · obtain ⟨R1, u1, s1, h1, kd1, p1, k1, v1, v2, v2k, v2b, v3, v4, v5, v6, v7, v8, v9, v10, v11, v12, v13, v14, v15, v16⟩ := id hg
      have e4 := v3.2.2.2.2.2.1
      have hkd := Tok_kd v3.2.2.2.2.2
      by_cases ho : Op kd1
      · obtain ⟨C2, C3, C4, q1, q2, q3, q4⟩ := bin_more hEnv hsub hbrk hr0 hmb hTopS hrk hsl hm0 (by omega) hs9 (by rw [hx1]; have := (hTop1 x hx2).2; omega) (fun z => by omega) hh e4 (hOp _ ho).1 hg
        rw [hgo j a2 kd1 e4 ho hj, q1, bind_some', q2, bind_some', q3, bind_some']
        refine ⟨_, rfl, Or.inl ⟨_, rfl, rfl, ?_⟩⟩
        rcases q4 with q4 | q4
        · left
          obtain ⟨R4, u4, s4, h4, kd4, p4, k4, a1, a2, a2k, a2b, a3, a4, a5, a6, a7, a8, a9, a10, a11, a12, a13, a14, a15, a16⟩ := q4 (fun kd' _ z y => by
            rcases hagx with hx | ⟨hx, hx3⟩
            · exact z ⟨y.1, Or.inr ⟨hx, y.2⟩⟩
            · have y2 := y.2
              obtain ⟨m', rfl⟩ : ∃ m', m = m' + 1 := ⟨m - 1, by omega⟩
              rw [show m' + 1 - 1 = m' by omega] at hx1
              obtain ⟨x1, x2⟩ := hx3 x hx2
              rw [hx, agR5 hx1, if_neg x1, decide_eq_true_eq] at y2
              exact x2 y2)
          exact ⟨R4, u4, s4, h4, kd4, p4, k4, a1, a2, a2k, a2b, a3, a4, a5, a6, a7, a8, a9, a10, a11, a12, a13, a14, fun z => a15 (Or.inl z), a16⟩
        · right
          obtain ⟨f, q, f1, f2⟩ := q4
          refine ⟨f, q, DmC_mono f1 (fun kd' z => ⟨z.1, ?_⟩), f2⟩
          rcases z.2 with y | y | y
          · exact Or.inl y
          · exfalso
            unfold arM at y
            split at y <;> omega
          · exact Or.inr y.2
      · rw [hex j a2 kd1 e4 (by omega) (by omega) ho]
        exact ⟨_, rfl, Or.inr ⟨_, rfl, Or.inl ⟨R1, u1, s1, h1, kd1, p1, k1, v1, v2, v2k, v2b, v3, v4, v5, v6, v7, v8, v9, v10, v11, by omega, by omega, v14, hEx kd1 v15 ho, v16⟩⟩⟩
    · obtain ⟨f, q, f1, f2⟩ := id hf
      obtain ⟨kd1, e4, hk⟩ := DmC_kd f1
      have ho : ¬ Op kd1 := fun z => by
        rcases hk with y | y
        · exact (hOp _ z).2.2 y
        · exact (hOp _ z).2.1 y.1
      have hk2 : kd1 < 200 := by
        rcases hk with y | y
        · omega
        · have := DM_rng y.1; omega
      rw [hex j a2 kd1 e4 hk2 (by omega) ho]
      exact ⟨_, rfl, Or.inr ⟨_, rfl, Or.inr hf⟩⟩
  · rintro ⟨a1, a2⟩ ⟨ha, hb⟩
    dsimp only at ha hb
    subst ha
    rcases hb with hg | hf
    · obtain ⟨R1, u1, s1, h1, kd1, p1, k1, v1, v2, v2k, v2b, v3, v4, v5, v6, v7, v8, v9, v10, v11, v12, v13, v14, v15, v16⟩ := id hg
      have := v1.2.1.1.2.2
      omega
    · obtain ⟨f, q, f1, f2⟩ := id hf
      obtain ⟨kd1, e4, hk⟩ := DmC_kd f1
      have ho : ¬ Op kd1 := fun z => by
        rcases hk with y | y
        · exact (hOp _ z).2.2 y
        · exact (hOp _ z).2.1 y.1
      have hk2 : kd1 < 200 := by
        rcases hk with y | y
        · omega
        · have := DM_rng y.1; omega
      rw [hex 80 a2 kd1 e4 hk2 (by omega) ho]
      exact ⟨_, rfl, _, rfl, Or.inr hf⟩
/-- one operation at most -/
theorem loop_B (hEnv : EnvX md t b n bare C0 R0) {d mbS mxS slS : Nat} {TopS ExS : Nat → Prop} {sub : Mem → Option Mem} (hsub : SimG md t b n s0 bare C0 R0 d mbS mxS slS TopS ExS 0 sub) (hbrk : ∀ C, C 40 4 = 24 → sub C = some C) {r : Nat} (hr0 : 0 < r) (hmb : mbS ≤ 90) (hTopS : TopS r) (hrk : ∀ kd, ¬ ExS kd → ¬ (DM md kd ∧ arM md = r) → rkM md kd ≤ r) (hsl : 1 ≤ slS) (hr : r = arM md) (hOp : ∀ kd, DM md kd → OpOK md kd r) {tail : Mem → Option Mem} (hgo : ∀ C (kd : Nat), C 40 4 = (kd : Int) → DM md kd → tail C = (K_pass C).bind fun M => (sub M).bind fun M => (S_add (kd : Int) 0 M)) (hex : ∀ C (kd : Nat), C 40 4 = (kd : Int) → kd < 200 → ¬ DM md kd → tail C = some C) {mb : Nat} (hmbL : mb + 1 ≤ mbS) {Top : Nat → Prop} (hTop1 : ∀ x, Top x → TopS x ∧ ¬ (x < 7 ∧ r ≤ x)) (hag : ∀ (R : Mem) m x, R 108 m = (x : Nat) → Top x → agR r R (m + 1) = false) {ExL : Nat → Prop} (hEx : ∀ kd, ¬ ExS kd → ¬ DM md kd → ¬ ExL kd) {L : Mem → Option Mem} (hL : ∀ C, L C = (sub C).bind tail) : SimG md t b n s0 bare C0 R0 d mb (mxS + 1) 1 Top ExL 1 L := by
  intro C R u s h m kd p hX hH hh g hm hT hs9
  have hm0 : 1 ≤ m := hX.2.2.1.1
  obtain ⟨x, hx1, hx2⟩ := hT
  have ha : agR r R m = false := by
    have := hag R (m - 1) x hx1 hx2
    rw [show m - 1 + 1 = m by omega] at this
    exact this
  obtain ⟨C1, w1, w2⟩ := hsub C R u s h m kd p hX hH hh g (by omega) ⟨x, hx1, (hTop1 x hx2).1⟩ hs9
  rcases w2 with w2 | ⟨f, q, f1, f2⟩
  · have hg := GJ_0 hsl w2
    obtain ⟨R1, u1, s1, h1, kd1, p1, k1, v1, v2, v2k, v2b, v3, v4, v5, v6, v7, v8, v9, v10, v11, v12, v13, v14, v15, v16⟩ := id hg
    have e4 := v3.2.2.2.2.2.1
    have hkd := Tok_kd v3.2.2.2.2.2
    by_cases ho : DM md kd1
    · obtain ⟨C2, C3, C4, q1, q2, q3, q4⟩ := bin_more hEnv hsub hbrk hr0 hmb hTopS hrk hsl hm0 (by omega) hs9 (by rw [hx1]; have := (hTop1 x hx2).2; omega) (fun _ => ha) hh e4 (hOp _ ho) hg
      refine ⟨C4, by rw [hL, w1, bind_some', hgo C1 kd1 e4 ho, q1, bind_some', q2, bind_some', q3], ?_⟩
      rcases q4 with q4 | q4
      · left
        obtain ⟨R4, u4, s4, h4, kd4, p4, k4, a1, a2, a2k, a2b, a3, a4, a5, a6, a7, a8, a9, a10, a11, a12, a13, a14, a15, a16⟩ := q4 (fun kd' _ z y => z ⟨y.1, Or.inl hr⟩)
        exact ⟨R4, u4, s4, h4, kd4, p4, k4, a1, a2, a2k, a2b, a3, a4, a5, a6, a7, a8, a9, a10, a11, a12, by omega, a14, hEx kd4 (fun z => a15 (Or.inl z)) (fun z => a15 (Or.inr ⟨z, Or.inl hr⟩)), a16⟩
      · right
        obtain ⟨f, q, f1, f2⟩ := q4
        exact ⟨f, q, DmC_mono f1 (fun kd' z => ⟨z.1, Or.inl rfl⟩), f2⟩
    · refine ⟨C1, by rw [hL, w1, bind_some', hex C1 kd1 e4 (by omega) ho], Or.inl ⟨R1, u1, s1, h1, kd1, p1, k1, v1, v2, v2k, v2b, v3, v4, v5, v6, v7, v8, v9, v10, v11, by omega, by omega, v14, hEx kd1 v15 ho, v16⟩⟩
  · obtain ⟨kd1, e4, hk⟩ := DmC_kd f1
    have hk2 : kd1 = 24 := by
      rcases hk with y | ⟨-, y | y⟩
      · exact y
      · omega
      · rw [← hr, ha] at y
        exact absurd y (by decide)
    subst hk2
    have hd : ¬ DM md 24 := by
      unfold DM
      omega
    exact ⟨C1, by rw [hL, w1, bind_some', hex C1 24 e4 (by omega) hd], Or.inr ⟨f, q, DmC_mono f1 (fun kd' z => ⟨z.1, Or.inl rfl⟩), f2⟩⟩
end LOOP
