/-! ===== expressions: an operation between two ===== -/
def rkM (md kd : Nat) : Nat := if md = 0 then rkE kd else rkL kd
def DM (md kd : Nat) : Prop := (md = 0 ∧ kd = 12) ∨ (md = 1 ∧ (kd = 60 ∨ kd = 62 ∨ kd = 61))
def arM (md : Nat) : Nat := if md = 0 then 1 else 5
def opC (kd : Nat) : Nat := if kd = 14 then 6 else if kd = 13 then 7 else if kd = 12 then 8 else kd
def StpE (b bare h : Nat) (C0 R0 C R : Mem) (i : Nat) : Prop := ∃ c o : Nat, R 106 (900 * b + i) = (c : Int) ∧ R 107 (900 * b + i) = (o : Int) ∧ C 29 i = ((256 * o + sgE c : Nat) : Int) ∧ (1 ≤ c ∧ c ≤ 8) ∧ o < 100 ∧ (c = 1 → o < nF R0 b) ∧ (c = 2 → o < nR R0 b ∧ (C0 37 o = 1 → h = 1 ∧ bare = 0)) ∧ (c = 4 ∨ c = 5 → o < nP R0 b ∧ h = 1 ∧ bare = 0)
def StpL (b : Nat) (C R : Mem) (i : Nat) : Prop := ∃ c o : Nat, R 106 (900 * b + i) = (c : Int) ∧ (c = 11 → R 107 (900 * b + i) = (o : Int)) ∧ C 29 i = ((256 * o + sgL c : Nat) : Int) ∧ o < 10000 ∧ okL c
def StpM (md b bare h : Nat) (C0 R0 C R : Mem) (i : Nat) : Prop := (md = 0 → StpE b bare h C0 R0 C R i) ∧ (md = 1 → StpL b C R i)
def Stps (md b bare h s s' : Nat) (C0 R0 C R : Mem) : Prop := ∀ i, s ≤ i → i < s' → StpM md b bare h C0 R0 C R i
def XHm (md bare h : Nat) (C R : Mem) : Prop := md = 0 → (C 27 15 = 0 ∨ C 27 15 = 1) ∧ (bare = 0 → XH h C R)
/-- what the reference notes of holding stays a yes or no -/
def K45 (R R' : Mem) : Prop := (R 81 45 = 0 ∨ R 81 45 = 1) → (R' 81 45 = 0 ∨ R' 81 45 = 1)
/-- what is fixed about the text and the town so far -/
def EnvX (md t b n bare : Nat) (C0 R0 : Mem) : Prop := TB n C0 R0 ∧ HN t b C0 R0 ∧ R0 81 43 = (md : Int) ∧ md ≤ 1 ∧ (md = 0 → (C0 27 14 = (bare : Int) ∧ R0 81 44 = (bare : Int) ∧ bare ≤ 1) ∧ ∀ r, r < nR R0 b → (C0 37 r = 0 ∨ C0 37 r = 1) ∧ R0 92 (12 * b + r) = C0 37 r)
theorem Stp_mono {md b bare h h' i : Nat} {C0 R0 C R C' R' : Mem} (hs : StpM md b bare h C0 R0 C R i) (hh : h ≤ h') (h1 : h' ≤ 1) (hC : C' 29 i = C 29 i) (hR : R' 106 (900 * b + i) = R 106 (900 * b + i) ∧ R' 107 (900 * b + i) = R 107 (900 * b + i)) : StpM md b bare h' C0 R0 C' R' i := by
  obtain ⟨a1, a2⟩ := hs
  refine ⟨fun z => ?_, fun z => ?_⟩
  · obtain ⟨c, o, z1, z2, z3, z4, z5, z6, z7, z8⟩ := a1 z
    exact ⟨c, o, hR.1.trans z1, hR.2.trans z2, hC.trans z3, z4, z5, z6, fun q => ⟨(z7 q).1, fun w => ⟨by have := (z7 q).2 w; omega, ((z7 q).2 w).2⟩⟩, fun q => ⟨(z8 q).1, by have := (z8 q).2.1; omega, (z8 q).2.2⟩⟩
  · obtain ⟨c, o, z1, z2, z3, z4, z5⟩ := a2 z
    exact ⟨c, o, hR.1.trans z1, fun q => hR.2.trans (z2 q), hC.trans z3, z4, z5⟩
theorem agR1 {R : Mem} {m r : Nat} (h : R 108 m = (r : Int)) : agR 1 R (m + 1) = (if 1 < r ∧ r < 7 then agR 1 R m else decide (r = 1)) := by
  show (if R 108 m < 7 ∧ (if 1 = 1 then 1 < R 108 m else R 108 m = 6) then agR 1 R m else decide (R 108 m = ((1 : Nat) : Int))) = _
  by_cases q : 1 < r ∧ r < 7
  · rw [if_pos q, if_pos (show R 108 m < 7 ∧ (if 1 = 1 then 1 < R 108 m else R 108 m = 6) from ⟨by omega, by rw [if_pos rfl]; omega⟩)]
  · rw [if_neg q, if_neg (show ¬ (R 108 m < 7 ∧ (if 1 = 1 then 1 < R 108 m else R 108 m = 6)) from fun z => by rw [if_pos rfl] at z; omega), decide_eq_decide]
    omega
theorem agR5 {R : Mem} {m r : Nat} (h : R 108 m = (r : Int)) : agR 5 R (m + 1) = (if r = 6 then agR 5 R m else decide (r = 5)) := by
  show (if R 108 m < 7 ∧ (if 5 = 1 then 1 < R 108 m else R 108 m = 6) then agR 5 R m else decide (R 108 m = ((5 : Nat) : Int))) = _
  by_cases q : r = 6
  · rw [if_pos q, if_pos (show R 108 m < 7 ∧ (if 5 = 1 then 1 < R 108 m else R 108 m = 6) from ⟨by omega, by rw [if_neg (by decide)]; omega⟩)]
  · rw [if_neg q, if_neg (show ¬ (R 108 m < 7 ∧ (if 5 = 1 then 1 < R 108 m else R 108 m = 6)) from fun z => by rw [if_neg (by decide)] at z; omega), decide_eq_decide]
    omega
theorem arM_0 : arM 0 = 1 := rfl
theorem arM_1 : arM 1 = 5 := rfl
def pushR (m : Nat) (w sg v : Int) (R : Mem) : Mem := up (up (up (up R 108 m w) 109 m sg) 110 m v) 81 42 ((m + 1 : Nat) : Int)
section BIN
variable {md t b n s0 bare : Nat} {C0 R0 C R : Mem}
theorem pushR_o {m : Nat} {w sg v : Int} {a k : Nat} (h : ¬ ((a = 108 ∨ a = 109 ∨ a = 110) ∧ k = m) ∧ ¬ (a = 81 ∧ k = 42)) : pushR m w sg v R a k = R a k := by
  unfold pushR
  rw [up_at, if_neg (by omega), up_at, if_neg (by omega), up_at, if_neg (by omega), up_at, if_neg (by omega)]
theorem pushR_m {m : Nat} {w sg v : Int} : pushR m w sg v R 108 m = w ∧ pushR m w sg v R 109 m = sg ∧ pushR m w sg v R 110 m = v ∧ pushR m w sg v R 81 42 = ((m + 1 : Nat) : Int) := by
  unfold pushR
  exact ⟨by rw [up_c (by decide), up_c (by decide), up_c (by decide), up_eq], by rw [up_c (by decide), up_c (by decide), up_eq], by rw [up_c (by decide), up_eq], up_eq⟩
theorem Gd_pushR {m kd p : Nat} {w sg v : Int} (g : Gd n kd p C R) : Gd n kd p C (pushR m w sg v R) := by
  have e : ∀ k, k ≠ 42 → pushR m w sg v R 81 k = R 81 k := fun k hk => pushR_o (by omega)
  unfold Gd Tok at g ⊢
  rw [e 4 (by decide), e 5 (by decide), e 6 (by decide), e 7 (by decide), e 8 (by decide), e 9 (by decide), e 10 (by decide)]
  exact g
theorem TB_pushR {m : Nat} {w sg v : Int} (h : TB n C R) : TB n C (pushR m w sg v R) := by
  obtain ⟨h1, h2, h3, h4, h5⟩ := h
  exact ⟨h1, h2, by rw [pushR_o (by omega)]; exact h3, fun i hi => by rw [pushR_o (by omega)]; exact h4 i hi, h5⟩
theorem XS_pushR {u s m d : Nat} {w sg v : Int} (h : XS t b s0 C0 R0 u s m d C R) (hw : 1 ≤ w ∧ w ≤ 7) : XS t b s0 C0 R0 u s (m + 1) d C (pushR m w sg v R) := by
  obtain ⟨⟨f1, f2⟩, ⟨⟨n1, n2, n3⟩, ⟨n4, n5, n6⟩, n7, n8⟩, ⟨p1, p2, p3⟩, hs⟩ := h
  refine ⟨⟨f1, fun a k z => by rw [pushR_o (by omega)]; exact f2 a k z⟩, ⟨⟨n1, by rw [pushR_o (by omega)]; exact n2, n3⟩, ⟨n4, by rw [pushR_o (by omega)]; exact n5, n6⟩, pushR_m.2.2.2, by rw [pushR_o (by omega)]; exact n8⟩, ⟨by omega, by rw [pushR_o (by omega)]; exact p2, fun k z1 z2 => ?_⟩, hs⟩
  by_cases e : k = m
  · subst e
    rw [pushR_m.1]
    exact hw
  · rw [pushR_o (by omega)]
    exact p3 k z1 (by omega)
theorem e_push {m kd p r : Nat} {sg : Int} (hB : TB n C R) (hP : XP m R) (h42 : R 81 42 = (m : Int)) (hm : m ≤ 100) (g : Gd n kd p C R) (h23 : kd ≠ 23) (hr : M_rankHere R = some (r : Int)) (hr0 : 0 < r) (hr10 : r < 10) (hsg : (if n32 (r : Int) = 1 then some (8 : Int) else if n32 (r : Int) = 2 then some (7 : Int) else if n32 (r : Int) = 3 then some (6 : Int) else (M_sign (R 81 6) R).bind fun r_45 => some r_45) = some sg) (htop : ¬ (R 108 (m - 1) < 7 ∧ (r : Int) ≤ R 108 (m - 1))) (hag : (r = 1 ∨ r = 5) → agR r R m = false) : ∃ C' R', K_pass C = some C' ∧ M_e_b20 (0, R) = some (.inl (1, R')) ∧ S3 n (p + 1) True C (pushR m (r : Int) sg 0 R) C' R' := by
  obtain ⟨C', R', k1, k2, k3⟩ := pass_ok (TB_pushR (m := m) (w := (r : Int)) (sg := sg) (v := 0) hB) on_self (Gd_pushR g)
  rw [if_neg h23] at k3
  refine ⟨C', R', k1, ?_, k3⟩
  have e29 : it (M_behindUnit_b29 (r : Int)) FUEL R = some R := by
    rw [show FUEL = 9999999 + 1 from rfl]
    exact it_last (pop_end hP (by omega) h42 hr10 htop)
  have hstep := e_beh g.2.1.1 h42 (by have := hP.1; omega) (by omega)
  rw [beh_go hr hr10 (fun z => by rw [isAgain_eq hP (by omega) h42 z, hag z]; rfl), e29, bind_some'] at hstep
  unfold behK at hstep
  rw [if_pos (show 0 < n32 (r : Int) by rw [n32_nat (by omega)]; omega), hsg, bind_some', push_eq (what := 0) (sign := 0) (nn := 0) h42 (by omega), bind_some'] at hstep
  unfold pushR at k2
  rw [k2, bind_some', bind_some'] at hstep
  exact hstep
/-- what reading one piece does, from a good state: a longer row of steps, or both fail -/
def GoodG (md t b n s0 bare : Nat) (C0 R0 : Mem) (mx sl : Nat) (Ex : Nat → Prop) (u s h m d p : Nat) (C R : Mem) (v : Int) (C' : Mem) : Prop := ∃ R' u' s' h' kd' p' k, XS t b s0 C0 R0 u' s' m d C' R' ∧ XHm md bare h' C' R' ∧ K45 R R' ∧ h' ≤ 1 ∧ Gd n kd' p' C' R' ∧ Reach k (v, R) (0, R') ∧ p + k ≤ p' ∧ p < p' ∧ Pil m R R' ∧ Old b s C R C' R' ∧ s ≤ s' ∧ Stps md b bare h' s s' C0 R0 C' R' ∧ (∀ x, x + mx ≤ 25 → hR (R' 106) (900 * b + s) (s' - s) x = some (x + 1)) ∧ s' + sl + 9 * u ≤ 9 * u' + s ∧ u + 1 ≤ u' ∧ h ≤ h' ∧ ¬ Ex kd' ∧ ¬ (DM md kd' ∧ agR (arM md) R m = true)
def FailG (D : Nat → Prop) (b s0 : Nat) (R0 : Mem) (p : Nat) (R : Mem) (v : Int) (C' : Mem) : Prop := ∃ f q, DmC D C' f q ∧ Dn b s0 R0 p (v, R) f q
/-- the kinds that can't stand where a piece ends -/
def DW (md w m : Nat) (R : Mem) (kd : Nat) : Prop := DM md kd ∧ (w = 1 ∨ agR (arM md) R m = true)
theorem DmC_mono {D D' : Nat → Prop} {C : Mem} {f q : Int} (h : DmC D C f q) (hD : ∀ kd, D kd → D' kd) : DmC D' C f q := by
  obtain ⟨h1, h2 | ⟨h2, ⟨kd, h3, h4⟩, h5⟩⟩ := h
  · exact ⟨h1, Or.inl h2⟩
  · exact ⟨h1, Or.inr ⟨h2, ⟨kd, hD kd h3, h4⟩, h5⟩⟩
def SimG (md t b n s0 bare : Nat) (C0 R0 : Mem) (d mb mx sl : Nat) (Top Ex : Nat → Prop) (w : Nat) (sub : Mem → Option Mem) : Prop := ∀ C R u s h m kd p, XS t b s0 C0 R0 u s m d C R → XHm md bare h C R → h ≤ 1 → Gd n kd p C R → m ≤ mb → (∃ x : Nat, R 108 (m - 1) = (x : Int) ∧ Top x) → s ≤ 9 * u → ∃ C', sub C = some C' ∧ (GoodG md t b n s0 bare C0 R0 mx sl Ex u s h m d p C R 1 C' ∨ FailG (DW md w m R) b s0 R0 p R 1 C')
theorem FB_Dn1 {u s m d p p0 : Nat} (hX : XS t b s0 C0 R0 u s m d C R) (hEnv : EnvX md t b n bare C0 R0) (hb : b < 2) (hm : m ≤ 100) (hp0 : p0 ≤ 1605) {f q : Int} (hf : FBr R f q) : Dn b s0 R0 p0 (1, R) f q := by
  obtain ⟨h6, hf | ⟨rfl, hbad⟩⟩ := hf
  · exact Dn_flt hp0 hf h6 hX.1.2
  · have h42 := hX.2.1.2.2.1
    have hm1 := hX.2.2.1.1
    have hre : RE b s0 R0 R := hX.1.2
    have e43 : R 81 43 = (md : Int) := (hX.1.2 _ _ (by omega)).trans hEnv.2.2.1
    have fin : M_e_b20 (1, R) = some (.inl (1, up (up R 81 4 1) 81 5 q)) → Dn b s0 R0 p0 (1, R) 1 q := by
      intro hstep
      obtain ⟨z6, z61, z62⟩ := h6
      refine ⟨2, _, by omega, by omega, by rw [it_step hstep]; exact it_last (e_flt (up45_flt (by decide) (by decide))), ⟨⟨z6, z61, by rw [up45_6]; exact z62⟩, Or.inl (up45_flt (by decide) (by decide))⟩, RE_45 hre _ _, fun z => ?_⟩
      dsimp only at z
      rw [up_k (by decide), up_k (by decide)]
      exact z
    have hmd : md = 0 ∨ md = 1 := by have := hEnv.2.2.2.1; omega
    have h8 : ¬ n32 (R 81 8) = 2 := by rw [hbad.2.1]; decide
    rcases hmd with rfl | rfl
    · refine fin ?_
      rw [e_unit hbad.1 h42 (by omega) (by omega) e43]
      unfold M_unit
      rw [isWord_bad hbad, isWord_bad hbad, isWord_bad hbad, stands_bad hbad, bind_some', bind_some', if_pos (by decide), bind_some', if_neg nz0, bind_some', if_neg (by decide), bind_some', bind_some', if_neg (by rintro (z | z) <;> exact nz0 z), bind_some', jn_eq, jn_eq]
      dsimp only
      rw [if_pos (by decide), if_pos h8, if_neg nz0, bind_some', if_neg (by decide), bad_misp hbad, bind_some', bind_some', fl_good (up45_flt (by decide) (by decide)), bind_some', if_pos (by decide), bind_some']
    · refine fin ?_
      rw [e_part hbad.1 h42 (by omega) (by omega) e43]
      unfold M_part
      rw [stands_bad hbad, bind_some', hbad.2.1, if_neg (by decide), isWord_bad hbad, isWord_bad hbad, isWord_bad hbad, isWord_bad hbad, bind_some', if_neg nz0, bind_some', if_neg nz0, bind_some', if_neg nz0, bind_some', if_neg nz0, bind_some', jn_eq]
      dsimp only
      rw [if_pos (by decide), if_neg nz0, bind_some', if_neg (by decide), bad_misp hbad, bind_some', bind_some', fl_good (up45_flt (by decide) (by decide)), bind_some', if_pos (by decide), bind_some']
theorem rank_m (hEnv : EnvX md t b n bare C0 R0) {u s m d kd p : Nat} (hX : XS t b s0 C0 R0 u s m d C R) (g : Gd n kd p C R) : M_rankHere R = some (rkM md kd : Int) := by
  have e43 : R 81 43 = (md : Int) := (hX.1.2 _ _ (by omega)).trans hEnv.2.2.1
  have hmd : md = 0 ∨ md = 1 := by have := hEnv.2.2.2.1; omega
  have hB := XF_TB hEnv.1 hEnv.2.1.1.1 hX.1
  obtain ⟨-, -, -, g6, ⟨e, e1, e2, -⟩, gT⟩ := g
  unfold rkM
  rcases hmd with rfl | rfl
  · rw [if_pos rfl]
    exact rank_e gT e43
  · rw [if_neg (by decide)]
    exact rank_l hB on_self gT (q := p) (by have := hB.1; omega) g6 e43
theorem hR_add {f : Nat → Int} {lo : Nat} : ∀ {n k x : Nat}, hR f lo (n + k) x = (hR f lo n x).bind (hR f (lo + n) k)
  | n, 0, x => by
    show hR f lo n x = (hR f lo n x).bind (fun h => some h)
    cases hR f lo n x <;> rfl
  | n, k + 1, x => by
    show (hR f lo (n + k) x).bind (hS (f (lo + (n + k)))) = (hR f lo n x).bind (fun h => (hR f (lo + n) k h).bind (hS (f (lo + n + k))))
    rw [hR_add (n := n) (k := k) (x := x), Nat.add_assoc]
    cases hR f lo n x <;> rfl
theorem rkM_op {kd : Nat} : rkM md kd ≤ 6 := by
  unfold rkM rkE rkL
  split
  · split <;> (try omega)
    split <;> (try omega)
    split <;> omega
  · split <;> (try omega)
    split <;> (try omega)
    split <;> omega
/-- is an operation's kind: its rank, its code -/
def OpOK (md kd r : Nat) : Prop := rkM md kd = r ∧ ((md = 0 ∧ (kd = 12 ∨ kd = 13 ∨ kd = 14)) ∨ (md = 1 ∧ (kd = 13 ∨ kd = 43 ∨ kd = 45 ∨ kd = 60 ∨ kd = 61 ∨ kd = 62)))
theorem bin_step (hEnv : EnvX md t b n bare C0 R0) {d mbS mxS slS : Nat} {TopS ExS : Nat → Prop} {w : Nat} {sub : Mem → Option Mem} (hsub : SimG md t b n s0 bare C0 R0 d mbS mxS slS TopS ExS w sub) (hbrk : ∀ C, C 40 4 = 24 → sub C = some C) {r : Nat} (hr0 : 0 < r) (hmb : mbS ≤ 90) (hTopS : TopS r) (hrk : ∀ kd, ¬ ExS kd → ¬ (DM md kd ∧ arM md = r) → rkM md kd ≤ r) (hsl : 1 ≤ slS) {u s h m kd p : Nat} (hX : XS t b s0 C0 R0 u s m d C R) (hH : XHm md bare h C R) (hh1 : h ≤ 1) (g : Gd n kd p C R) (hop : OpOK md kd r) (hm : m + 1 ≤ mbS) (htop : ¬ (R 108 (m - 1) < 7 ∧ (r : Int) ≤ R 108 (m - 1))) (hag : (r = 1 ∨ r = 5) → agR r R m = false) (hs9 : s ≤ 9 * u) : ∃ C2 C3 C4, K_pass C = some C2 ∧ sub C2 = some C3 ∧ S_add (kd : Int) 0 C3 = some C4 ∧ ((∃ R' u' s' h' kd' p' k, XS t b s0 C0 R0 u' s' m d C4 R' ∧ XHm md bare h' C4 R' ∧ K45 R R' ∧ h' ≤ 1 ∧ Gd n kd' p' C4 R' ∧ Reach k (0, R) (0, R') ∧ p + k ≤ p' ∧ p < p' ∧ Pil m R R' ∧ Old b s C R C4 R' ∧ s ≤ s' ∧ Stps md b bare h' s s' C0 R0 C4 R' ∧ (∀ x, x + 1 + mxS ≤ 25 → hR (R' 106) (900 * b + s) (s' - s) (x + 1) = some (x + 1)) ∧ s' + slS + 9 * u ≤ 9 * u' + s + 1 ∧ u + 1 ≤ u' ∧ h ≤ h' ∧ ¬ ExS kd' ∧ ¬ (DM md kd' ∧ ((r = arM md) ∨ ((r = 3 ∨ (r = 2 ∧ md = 0) ∨ r = 6) ∧ agR (arM md) R m = true)))) ∨ FailG (fun kd' => DM md kd' ∧ (w = 1 ∨ (r = arM md) ∨ ((r = 3 ∨ (r = 2 ∧ md = 0) ∨ r = 6) ∧ agR (arM md) R m = true))) b s0 R0 p R 0 C4) := by
  obtain ⟨ht, hb, -, -⟩ := hEnv.2.1.1
  have ht2 : t = 3 ∨ t = 15 := ht
  have hB := XF_TB hEnv.1 ht hX.1
  have hrank := rank_m hEnv hX g
  rw [hop.1] at hrank
  have hr7 : r ≤ 6 := by rw [← hop.1]; exact rkM_op
  obtain ⟨hXF, ⟨⟨n1, n2, n3⟩, ⟨n4, n5, n6⟩, n7, n8⟩, hP, hs0⟩ := id hX
  obtain ⟨-, -, -, g6, ⟨e, e1, e2, e3, -⟩, gT⟩ := id g
  have hkd := Tok_kd gT
  have h23 : kd ≠ 23 := by have := hop.2; omega
  have hsg : (if n32 (r : Int) = 1 then some (8 : Int) else if n32 (r : Int) = 2 then some (7 : Int) else if n32 (r : Int) = 3 then some (6 : Int) else (M_sign (R 81 6) R).bind fun r_45 => some r_45) = some ((opC kd : Nat) : Int) := by
    obtain ⟨o1, o2⟩ := hop
    unfold rkM rkE rkL at o1
    rcases o2 with ⟨rfl, z | z | z⟩ | ⟨rfl, z⟩
    · subst z; subst o1; rfl
    · subst z; subst o1; rfl
    · subst z; subst o1; rfl
    · have hw : kd ≠ 13 → M_sign (R 81 6) R = some (kd : Int) := fun hk => by
        have hw2 : isSg (kd : Int) = true ∧ ∃ p : Nat, p < n ∧ R 81 6 = (p : Int) ∧ C 2 p = (kd : Int) := by
          obtain ⟨-, hT⟩ := gT
          rcases hT with ⟨z, -⟩ | ⟨z, -⟩ | ⟨z1, z2, -⟩ | ⟨z, -⟩ | ⟨z, -, z2⟩
          · omega
          · omega
          · omega
          · omega
          · exact ⟨z, z2⟩
        obtain ⟨y1, y2, y3, y4, y5⟩ := hw2
        have hr := isSg_rng y1
        rw [y4, sgn_any hB on_self (by have := hB.1; omega), if_pos y3, y5]
        unfold u8
        rw [if_pos (by omega)]
      rcases z with z | z | z | z | z | z <;> subst z <;> subst o1
      · rfl
      all_goals (rw [hw (by decide)]; rfl)
  obtain ⟨C2, R2, k1, k2, k3⟩ := e_push hB hP n7 (by omega) g h23 hrank hr0 (by omega) hsg htop hag
  have hXp := XS_pushR (w := (r : Int)) (sg := ((opC kd : Nat) : Int)) (v := 0) hX ⟨by omega, by omega⟩
  obtain ⟨hon, hst⟩ := k3
  have hX2 := XS_on ht hXp hon
  have pile2 : ∀ j, j < m → R2 108 j = R 108 j ∧ R2 109 j = R 109 j ∧ R2 110 j = R 110 j := fun j hj => by
    rw [hon.2 108 _ (by omega), hon.2 109 _ (by omega), hon.2 110 _ (by omega), pushR_o (by omega), pushR_o (by omega), pushR_o (by omega)]
    exact ⟨rfl, rfl, rfl⟩
  have top2 : R2 108 m = (r : Int) ∧ R2 109 m = ((opC kd : Nat) : Int) ∧ R2 110 m = 0 := by
    rw [hon.2 108 _ (by omega), hon.2 109 _ (by omega), hon.2 110 _ (by omega)]
    exact ⟨pushR_m.1, pushR_m.2.1, pushR_m.2.2.1⟩
  have e45 : R2 81 45 = R 81 45 := by rw [hon.2 81 45 (by omega), pushR_o (by omega)]
  have c27 : C2 27 15 = C 27 15 := hon.1 _ _ (by decide)
  have old2 : Old b s C R C2 R2 := ⟨fun k hk => hon.1 _ _ (by decide), fun k hk => by rw [hon.2 106 _ (by omega), hon.2 107 _ (by omega), pushR_o (by omega), pushR_o (by omega)]; exact ⟨rfl, rfl⟩⟩
  have hH2 : XHm md bare h C2 R2 := fun z => by
    obtain ⟨a0, a1⟩ := hH z
    exact ⟨by rw [c27]; exact a0, fun y => ⟨c27.trans (a1 y).1, e45.trans (a1 y).2.1, (a1 y).2.2⟩⟩
  have hag2 : agR (arM md) R2 (m + 1) = true → (r = arM md ∨ ((r = 3 ∨ (r = 2 ∧ md = 0) ∨ r = 6) ∧ agR (arM md) R m = true)) := by
    intro z
    have hmd : md = 0 ∨ md = 1 := by have := hEnv.2.2.2.1; omega
    have hop2 := hop
    obtain ⟨o1, o2⟩ := hop2
    rcases hmd with rfl | rfl
    · rw [arM_0, agR1 top2.1, agR_congr (fun k hk => (pile2 k hk).1)] at z
      rw [arM_0]
      by_cases q : 1 < r ∧ r < 7
      · rw [if_pos q] at z
        refine Or.inr ⟨?_, z⟩
        rcases o2 with ⟨-, y⟩ | ⟨y, -⟩
        · rcases y with y | y | y
          · subst y; subst o1; exact absurd q (by decide)
          · subst y; subst o1; exact Or.inr (Or.inl ⟨rfl, rfl⟩)
          · subst y; subst o1; exact Or.inl rfl
        · omega
      · rw [if_neg q, decide_eq_true_eq] at z
        exact Or.inl z
    · rw [arM_1, agR5 top2.1, agR_congr (fun k hk => (pile2 k hk).1)] at z
      rw [arM_1]
      by_cases q : r = 6
      · rw [if_pos q] at z
        exact Or.inr ⟨Or.inr (Or.inr q), z⟩
      · rw [if_neg q, decide_eq_true_eq] at z
        exact Or.inl z
  rcases hst with ⟨kd2, p2, hp2, g2, -⟩ | hfb
  · obtain ⟨C3, w1, hw⟩ := hsub C2 R2 u s h (m + 1) kd2 p2 hX2 hH2 hh1 g2 hm ⟨r, by rw [show m + 1 - 1 = m by omega]; exact top2.1, hTopS⟩ hs9
    rcases hw with ⟨R3, u3, s3, h3, kd3, p3, k, v1, v2, v2k, v2b, v3, v4, v5, v6, v7, v8, v9, v10, v11, v12, v13, v14, v15, v16⟩ | ⟨f, q, v1, v2⟩
    · obtain ⟨hXF3, ⟨⟨a1, a2, a3⟩, ⟨a4, a5, a6⟩, a7, a8⟩, hP3, hs3⟩ := id v1
      have hadd := add_eq a4 (by omega) kd 0 (by omega) (by decide)
      rw [show ((0 : Nat) : Int) = 0 from rfl] at hadd
      have hnd : ¬ (DM md kd3 ∧ arM md = r) := fun z => v16 ⟨z.1, by
        have hmd : md = 0 ∨ md = 1 := by have := hEnv.2.2.2.1; omega
        have z2 := z.2
        rcases hmd with rfl | rfl
        · rw [arM_0] at z2
          subst z2
          rw [arM_0, agR1 top2.1]
          rfl
        · rw [arM_1] at z2
          subst z2
          rw [arM_1, agR5 top2.1]
          rfl⟩
      have hrk3 : rkM md kd3 ≤ r := hrk kd3 v15 hnd
      obtain ⟨pt1, pt2, pt3⟩ := v7 m (by omega)
      have hrank3 := rank_m hEnv v1 v3
      refine ⟨C2, C3, _, k1, w1, hadd, Or.inl ?_⟩
      generalize hC4 : up (up C3 29 s3 ((256 * 0 + kd : Nat) : Int)) 28 1 ((s3 + 1 : Nat) : Int) = C4
      have c4 : ∀ a k, ¬ (a = 29 ∧ k = s3) → ¬ (a = 28 ∧ k = 1) → C4 a k = C3 a k := fun a k z1 z2 => by rw [← hC4, up_at, if_neg z2, up_at, if_neg z1]
      have c429 : C4 29 s3 = ((256 * 0 + kd : Nat) : Int) := by rw [← hC4, up_c (by decide), up_eq]
      have c428 : C4 28 1 = ((s3 + 1 : Nat) : Int) := by rw [← hC4, up_eq]
      generalize hR4 : popR b s3 (m + 1) R3 = R4
      have r4 : ∀ a k, ¬ (a = 81 ∧ (k = 40 ∨ k = 41 ∨ k = 42)) ∧ ¬ ((a = 106 ∨ a = 107) ∧ k = 900 * b + s3) → R4 a k = R3 a k := fun a k z => by rw [← hR4]; exact popR_o z
      have t108 : R3 108 (m + 1 - 1) = (r : Int) := by rw [show m + 1 - 1 = m by omega]; exact pt1.trans top2.1
      have r442 : R4 81 42 = (m : Int) := by rw [← hR4]; exact popR_42
      have r440 : R4 81 40 = ((900 * b + (s3 + 1) : Nat) : Int) := by rw [← hR4]; exact popR_40
      have r441 : R4 81 41 = (d : Int) := by
        rw [← hR4, popR_41, t108, if_neg]
        · exact a8
        · have := hop.1
          intro z
          have hr4 : r = 4 := by omega
          unfold rkM rkE rkL at this
          rw [hr4] at this
          split at this
          · split at this <;> (try omega)
            split at this <;> (try omega)
            split at this <;> omega
          · split at this <;> (try omega)
            split at this <;> (try omega)
            split at this <;> omega
      have r4106 : R4 106 (900 * b + s3) = ((opC kd : Nat) : Int) ∧ R4 107 (900 * b + s3) = 0 := by
        rw [← hR4]
        have := popR_106 (b := b) (s := s3) (m := m + 1) (R := R3)
        rw [show m + 1 - 1 = m by omega, pt2, pt3, top2.2.1, top2.2.2] at this
        exact this
      have eg : ∀ k, k ≠ 40 → k ≠ 41 → k ≠ 42 → R4 81 k = R3 81 k := fun k z1 z2 z3 => r4 _ _ (by omega)
      have g4 : Gd n kd3 p3 C4 R4 := by
        have ec : ∀ k, C4 40 k = C3 40 k := fun k => c4 _ _ (by omega) (by omega)
        have ec2 : ∀ k, C4 2 k = C3 2 k := fun k => c4 _ _ (by omega) (by omega)
        unfold Gd Tok at v3 ⊢
        simp only [ec, ec2]
        rw [eg 4 (by decide) (by decide) (by decide), eg 5 (by decide) (by decide) (by decide), eg 6 (by decide) (by decide) (by decide), eg 7 (by decide) (by decide) (by decide), eg 8 (by decide) (by decide) (by decide), eg 9 (by decide) (by decide) (by decide), eg 10 (by decide) (by decide) (by decide)]
        exact v3
      have hX4 : XS t b s0 C0 R0 u3 (s3 + 1) m d C4 R4 := by
        refine ⟨⟨fun a k z => by rw [c4 _ _ (by omega) (by omega)]; exact hXF3.1 a k z, fun a k z => by rw [r4 _ _ (by omega)]; exact hXF3.2 a k z⟩, ⟨⟨by rw [c4 _ _ (by omega) (by omega)]; exact a1, by rw [r4 _ _ (by omega)]; exact a2, a3⟩, ⟨c428, r440, by omega⟩, r442, r441⟩, ?_, by omega⟩
        have := popR_XP (b := b) (s := s3) hP3 (by have := hP.1; omega)
        rw [hR4, show m + 1 - 1 = m by omega] at this
        exact this
      have hreach : Reach 0 (0, R3) (0, R4) := by
        refine Reach_0 ?_
        rw [← hR4]
        have hr10 : rkM md kd3 < 10 := by have := @rkM_op md kd3; omega
        refine e_pop hP3 (by have := hP.1; omega) (by omega) hb (by omega) a7 a5 v3.2.1.1 hr10 (by rw [t108]; omega) (by rw [t108]; omega) hrank3 ?_ ?_
        · rw [hR4]
          exact rank_m hEnv hX4 g4
        · intro hrr
          have har : rkM md kd3 = arM md ∧ DM md kd3 := by
            have hmd : md = 0 ∨ md = 1 := by have := hEnv.2.2.2.1; omega
            rcases hmd with rfl | rfl
            · have e1 : rkM 0 kd3 = rkE kd3 := rfl
              rw [e1, arM_0]
              rw [e1] at hrr
              unfold rkE at hrr ⊢
              unfold DM
              by_cases z1 : kd3 = 13
              · rw [if_pos z1] at hrr; omega
              · rw [if_neg z1] at hrr ⊢
                by_cases z2 : kd3 = 12
                · rw [if_pos z2]; exact ⟨rfl, Or.inl ⟨rfl, z2⟩⟩
                · rw [if_neg z2] at hrr
                  split at hrr <;> omega
            · have e1 : rkM 1 kd3 = rkL kd3 := rfl
              rw [e1, arM_1]
              rw [e1] at hrr
              unfold rkL at hrr ⊢
              unfold DM
              by_cases z1 : kd3 = 13
              · rw [if_pos z1] at hrr; omega
              · rw [if_neg z1] at hrr ⊢
                by_cases z2 : kd3 = 60 ∨ kd3 = 62 ∨ kd3 = 61
                · rw [if_pos z2]; exact ⟨rfl, Or.inr ⟨rfl, z2⟩⟩
                · rw [if_neg z2] at hrr
                  split at hrr <;> omega
          rw [har.1]
          have e1 : agR (arM md) R3 (m + 1) = agR (arM md) R2 (m + 1) := agR_congr (fun k hk => (v7 k hk).1)
          rw [e1]
          cases hz : agR (arM md) R2 (m + 1) with
          | false => rfl
          | true => exact absurd ⟨har.2, hz⟩ v16
      have hk' := Reach_trans (Reach_trans (Reach_1 k2) v4) hreach
      have hseg : hR (R4 106) (900 * b + s) (s3 - s) = hR (R3 106) (900 * b + s) (s3 - s) := by
        funext x
        exact hR_congr (fun i hi => r4 _ _ (by omega))
      refine ⟨R4, u3, s3 + 1, h3, kd3, p3, 1 + k + 0, hX4, fun z => ?_, fun z => ?_, v2b, g4, hk', by omega, by omega, fun j hj => ?_, ⟨fun j hj => ?_, fun j hj => ?_⟩, by omega, fun i hi1 hi2 => ?_, fun x hx => ?_, by omega, v13, v14, v15, fun z => ?_⟩
      · obtain ⟨y0, y1⟩ := v2 z
        exact ⟨by rw [c4 _ _ (by omega) (by omega)]; exact y0, fun y => ⟨by rw [c4 _ _ (by omega) (by omega)]; exact (y1 y).1, by rw [r4 _ _ (by omega)]; exact (y1 y).2.1, (y1 y).2.2⟩⟩
      · rw [r4 _ _ (by omega)]
        exact v2k (by rw [e45]; exact z)
      · obtain ⟨y1, y2, y3⟩ := v7 j (by omega)
        obtain ⟨x1, x2, x3⟩ := pile2 j hj
        rw [r4 108 _ (by omega), r4 109 _ (by omega), r4 110 _ (by omega)]
        exact ⟨y1.trans x1, y2.trans x2, y3.trans x3⟩
      · rw [c4 _ _ (by omega) (by omega), v8.1 j hj]
        exact old2.1 j hj
      · rw [r4 106 _ (by omega), r4 107 _ (by omega)]
        exact ⟨(v8.2 j hj).1.trans (old2.2 j hj).1, (v8.2 j hj).2.trans (old2.2 j hj).2⟩
      · by_cases e : i = s3
        · subst e
          obtain ⟨o1, o2⟩ := hop
          refine ⟨fun z => ?_, fun z => ?_⟩
          · refine ⟨opC kd, 0, r4106.1, r4106.2, ?_, ?_, by decide, ?_, ?_, ?_⟩
            · rw [c429]
              rcases o2 with ⟨-, y | y | y⟩ | ⟨y, -⟩
              · subst y; rfl
              · subst y; rfl
              · subst y; rfl
              · omega
            all_goals (rcases o2 with ⟨-, y | y | y⟩ | ⟨y, -⟩ <;> first | omega | (subst y; decide) | (subst y; intro q; exact absurd q (by decide)))
          · refine ⟨opC kd, 0, r4106.1, fun _ => r4106.2, ?_, by decide, ?_⟩
            · rw [c429]
              rcases o2 with ⟨y, -⟩ | ⟨-, y⟩
              · omega
              · rcases y with y | y | y | y | y | y <;> subst y <;> rfl
            · rcases o2 with ⟨y, -⟩ | ⟨-, y⟩
              · omega
              · unfold okL
                rcases y with y | y | y | y | y | y <;> subst y <;> decide
        · exact Stp_mono (v10 i hi1 (by omega)) (Nat.le_refl _) v2b (c4 _ _ (by omega) (by omega)) ⟨r4 _ _ (by omega), r4 _ _ (by omega)⟩
      · rw [show s3 + 1 - s = (s3 - s) + 1 by omega]
        show (hR (R4 106) (900 * b + s) (s3 - s) (x + 1)).bind (hS (R4 106 (900 * b + s + (s3 - s)))) = _
        rw [hseg, v11 (x + 1) hx, bind_some', show 900 * b + s + (s3 - s) = 900 * b + s3 by omega, r4106.1]
        have hnb : ¬ (((opC kd : Nat) : Int) = 1 ∨ ((opC kd : Nat) : Int) = 2 ∨ (11 ≤ ((opC kd : Nat) : Int) ∧ ((opC kd : Nat) : Int) ≤ 15)) ∧ ¬ (3 ≤ ((opC kd : Nat) : Int) ∧ ((opC kd : Nat) : Int) ≤ 5) := by
          rcases hop.2 with ⟨-, y | y | y⟩ | ⟨-, y⟩
          · subst y; decide
          · subst y; decide
          · subst y; decide
          · rcases y with y | y | y | y | y | y <;> subst y <;> decide
        unfold hS
        rw [if_neg hnb.1, if_neg hnb.2, if_pos (by omega)]
        congr 1
      · obtain ⟨z1, z2⟩ := z
        refine v16 ⟨z1, ?_⟩
        have hmd : md = 0 ∨ md = 1 := by have := hEnv.2.2.2.1; omega
        rcases z2 with z2 | ⟨z2, z3⟩
        · exact absurd ⟨z1, z2.symm⟩ hnd
        · obtain ⟨o1, o2⟩ := hop
          rcases hmd with rfl | rfl
          · rw [arM_0] at z3 ⊢
            rw [agR1 top2.1, agR_congr (fun k hk => (pile2 k hk).1), if_pos (by omega)]
            exact z3
          · rw [arM_1] at z3 ⊢
            have hr6 : r = 6 := by
              rcases z2 with z2 | ⟨z2, y⟩ | z2
              · exfalso
                rcases o2 with ⟨y, -⟩ | ⟨-, y⟩
                · omega
                · rcases y with y | y | y | y | y | y <;> subst y <;> subst o1 <;> exact absurd z2 (by decide)
              · omega
              · exact z2
            rw [agR5 top2.1, agR_congr (fun k hk => (pile2 k hk).1), if_pos hr6]
            exact z3
    · obtain ⟨C4, x1, x2, x3⟩ := DmC_add (DmC_mono (D' := fun kd' => DM md kd' ∧ (w = 1 ∨ (r = arM md) ∨ ((r = 3 ∨ (r = 2 ∧ md = 0) ∨ r = 6) ∧ agR (arM md) R m = true))) v1 (fun kd' z => ⟨z.1, z.2.imp (fun y => y) hag2⟩)) (kd : Int) 0
      refine ⟨C2, C3, C4, k1, w1, x1, Or.inr ⟨f, q, x2, Dn_reach (Reach_1 k2) (by omega) (fun z => ?_) v2⟩⟩
      dsimp only at z ⊢
      rw [e45]
      exact z
  · obtain ⟨f, q, ⟨c1, c2, c3⟩, hfbr⟩ := hfb
    have hD : DmC (fun kd' => DM md kd' ∧ (w = 1 ∨ (r = arM md) ∨ ((r = 3 ∨ (r = 2 ∧ md = 0) ∨ r = 6) ∧ agR (arM md) R m = true))) C2 f q := ⟨⟨s, n6, by rw [hon.1 _ _ (by decide)]; exact n4⟩, Or.inl ⟨c1, c2, c3⟩⟩
    obtain ⟨C4, x1, x2, x3⟩ := DmC_add hD (kd : Int) 0
    refine ⟨C2, C2, C4, k1, hbrk C2 c1, x1, Or.inr ⟨f, q, x2, Dn_reach (Reach_1 k2) (show p + 1 ≤ p + 1 from Nat.le_refl _) (fun z => ?_) (FB_Dn1 (p := p) hX2 hEnv hb (by omega) (by have := hB.1; omega) hfbr)⟩⟩
    dsimp only at z ⊢
    rw [e45]
    exact z
end BIN
