/-! ===== expressions: one, a name ===== -/
section ONE3
variable {t b n s0 bare : Nat} {C0 R0 C R : Mem}
theorem nmR_o {s : Nat} {x c o : Int} {a k : Nat} (h : ¬ ((a = 106 ∨ a = 107) ∧ k = 900 * b + s) ∧ ¬ (a = 81 ∧ (k = 40 ∨ k = 45))) : nmR b s x c o R a k = R a k := by
  unfold nmR
  rw [up_at, if_neg (by omega), up_at, if_neg (by omega), up_at, if_neg (by omega), up_at, if_neg (by omega)]
theorem nmR_at {s : Nat} {x c o : Int} : nmR b s x c o R 106 (900 * b + s) = c ∧ nmR b s x c o R 107 (900 * b + s) = o ∧ nmR b s x c o R 81 40 = ((900 * b + (s + 1) : Nat) : Int) ∧ nmR b s x c o R 81 45 = x := by
  unfold nmR
  exact ⟨by rw [up_c (by decide), up_c (by decide), up_eq], by rw [up_c (by decide), up_eq], up_eq, by rw [up_k (by decide), up_c (by decide), up_c (by decide), up_eq]⟩
theorem unit_fail2 {md u s m d p : Nat} {f v : Int} {D : Nat → Prop} {C1 R' : Mem} (hX : XS t b s0 C0 R0 u s m d C R) (hX' : ∃ u', XS t b s0 C0 R0 u' s m d C1 R') (hmd : md = md) (h1 : 0 < f) (h2 : f < 10) (hp : p ≤ 1600) (h40 : C1 40 5 = (p : Int)) (h6 : R' 81 6 = (p : Int)) (h45 : R' 81 45 = R 81 45) {x : Int} (hstep : M_e_b20 (v, R) = some (.inl (x, up (up R' 81 4 f) 81 5 (p : Int)))) : FailG D b s0 R0 p R v (failC C1 f) := by
  obtain ⟨u', hX'⟩ := hX'
  obtain ⟨q1, q2, q3⟩ := failC_at (C := C1) (f := f)
  refine ⟨f, (p : Int), ⟨⟨s, hX.2.1.2.1.2.2, ?_⟩, Or.inl ⟨q1, q2, by rw [q3, h40]⟩⟩, ?_⟩
  · unfold failC
    rw [up_c (by decide), up_c (by decide), up_c (by decide)]
    exact hX'.2.1.2.1.1
  · refine ⟨2, _, by omega, by omega, by rw [it_step hstep]; exact it_last (e_flt (up45_flt h1 h2)), ⟨⟨p, by omega, by rw [up45_6]; exact h6⟩, Or.inl (up45_flt h1 h2)⟩, RE_45 hX'.1.2 _ _, fun z => ?_⟩
    dsimp only at z
    rw [up_k (by decide), up_k (by decide), h45]
    exact z
theorem name_tail (hEnv : EnvX 0 t b n bare C0 R0) {k d u s h h' m p c o : Nat} {x : Int} {C2 : Mem} (hd : d ≤ 7) (hX : XS t b s0 C0 R0 u s m d C R) (hu : u < 80) (g : Gd n 21 p C R) (hm : m ≤ 4 + 4 * d) (hs9 : s ≤ 9 * u) (hc : ∀ a k, ¬ (a = 29 ∧ k = s) → ¬ (a = 28 ∧ k = 1) → ¬ (a = 27 ∧ k = 15) → ¬ (a = t ∧ k = 5) → C2 a k = C a k) (h28 : C2 28 1 = ((s + 1 : Nat) : Int)) (h5 : C2 t 5 = ((u + 1 : Nat) : Int)) (h29 : C2 29 s = ((256 * o + sgE c : Nat) : Int)) (hco : (c = 1 ∧ o < nF R0 b) ∨ (c = 2 ∧ o < nR R0 b ∧ (C0 37 o = 1 → h' = 1 ∧ bare = 0))) (hx : x = 0 ∨ x = 1) (h27 : C2 27 15 = 0 ∨ C2 27 15 = 1) (hhx : bare = 0 → C2 27 15 = (h' : Int) ∧ x = (h' : Int)) (hh' : h' ≤ 1) (hhh : h ≤ h') (hcls : ∀ C3, K_pass C2 = some C3 → N_readOne (k + 1) (d : Int) C = some C3) (hM : ∀ R1, M_goOn (nmR b s x (c : Int) (o : Int) (up R 90 b ((u + 1 : Nat) : Int))) = some R1 → M_unit R = some (0, R1)) : OneG t b n s0 bare C0 R0 k d u s h m p C R := by
  have ht := hEnv.2.1.1.1
  have ht2 : t = 3 ∨ t = 15 := ht
  obtain ⟨e27, e39, hb, e43, -⟩ := XS_at hEnv hX
  have hB := XF_TB hEnv.1 ht hX.1
  have hF8 := hEnv.2.1.2.1.2.2
  have hR12 := hEnv.2.1.2.2.2.1.2.2
  have ho100 : o < 100 := by omega
  have hc18 : 1 ≤ c ∧ c ≤ 8 := by omega
  have hc45 : c = 4 ∨ c = 5 → False := by omega
  have hcI : (c : Int) = 1 ∨ (c : Int) = 2 ∨ (11 ≤ (c : Int) ∧ (c : Int) ≤ 15) := by omega
  have hlt : ∀ y, y + (3 * (7 - d) + 1) ≤ 25 → y < 25 := fun y hy => by omega
  have hm1 := hX.2.2.1.1
  generalize hRn : nmR b s x (c : Int) (o : Int) (up R 90 b ((u + 1 : Nat) : Int)) = Rn at hM
  have rn : ∀ a k, ¬ ((a = 106 ∨ a = 107) ∧ k = 900 * b + s) → ¬ (a = 81 ∧ (k = 40 ∨ k = 45)) → ¬ (a = 90 ∧ k = b) → Rn a k = R a k := fun a k z1 z2 z3 => by
    rw [← hRn, nmR_o ⟨z1, z2⟩, up_at, if_neg z3]
  have rn90 : Rn 90 b = ((u + 1 : Nat) : Int) := by rw [← hRn, nmR_o (by omega), up_eq]
  obtain ⟨at1, at2, at3, at4⟩ := nmR_at (b := b) (s := s) (x := x) (c := (c : Int)) (o := (o : Int)) (R := up R 90 b ((u + 1 : Nat) : Int))
  rw [hRn] at at1 at2 at3 at4
  have hXn : XS t b s0 C0 R0 (u + 1) (s + 1) m d C2 Rn := by
    obtain ⟨⟨f1, f2⟩, ⟨⟨n1, n2, n3⟩, ⟨n4, n5, n6⟩, n7, n8⟩, ⟨p1, p2, p3⟩, hs⟩ := hX
    exact ⟨⟨fun a k z => by rw [hc a k (by omega) (by omega) (by omega) (by omega)]; exact f1 a k z, fun a k z => by rw [rn a k (by omega) (by omega) (by omega)]; exact f2 a k z⟩, ⟨⟨h5, rn90, by omega⟩, ⟨h28, at3, by omega⟩, by rw [rn _ _ (by omega) (by omega) (by omega)]; exact n7, by rw [rn _ _ (by omega) (by omega) (by omega)]; exact n8⟩, ⟨p1, by rw [rn _ _ (by omega) (by omega) (by omega)]; exact p2, fun k z1 z2 => by rw [rn _ _ (by omega) (by omega) (by omega)]; exact p3 k z1 z2⟩, by omega⟩
  have hBn := XF_TB hEnv.1 ht hXn.1
  have gn : Gd n 21 p C2 Rn := Gd_same g (fun k => hc _ _ (by omega) (by omega) (by omega) (by omega)) (fun k => hc _ _ (by omega) (by omega) (by omega) (by omega)) (fun k z1 z2 => rn _ _ (by omega) (by omega) (by omega))
  obtain ⟨C3, R3, k1, k2, hon, k3⟩ := pass_ok hBn on_self gn
  rw [if_neg (by decide)] at k3
  have hX3 := XS_on ht hXn hon
  have hstep := e_unit g.2.1.1 hX.2.1.2.2.1 (by omega) (by omega) e43
  rw [hM R3 k2, bind_some'] at hstep
  dsimp only at hstep
  have hpil : Pil m R R3 := fun j hj => by
    rw [hon.2 108 _ (by omega), hon.2 109 _ (by omega), hon.2 110 _ (by omega), rn _ _ (by omega) (by omega) (by omega), rn _ _ (by omega) (by omega) (by omega), rn _ _ (by omega) (by omega) (by omega)]
    exact ⟨rfl, rfl, rfl⟩
  have eag : ∀ r, agR r R3 m = agR r R m := fun r => agR_congr (fun k hk => (hpil k hk).1)
  have e45 : R3 81 45 = x := (hon.2 _ _ (by omega)).trans at4
  have c15 : C3 27 15 = C2 27 15 := hon.1 _ _ (by decide)
  have hp16 : p + 1 ≤ 1605 := by
    obtain ⟨-, -, -, -, ⟨e, y1, y2, -⟩, -⟩ := g
    have := hB.1
    omega
  refine ⟨C3, hcls C3 k1, ?_⟩
  rcases unit_end hEnv hb hX3 (by omega) hp16 k3 with ⟨kd4, p4, y1, y2, -, y4⟩ | ⟨f, q', y1, y2⟩
  · rw [eag] at y4
    refine Or.inl ⟨R3, u + 1, s + 1, h', kd4, p4, 1, hX3, fun z => ⟨by rw [c15]; exact h27, fun y => ⟨c15.trans (hhx y).1, e45.trans (hhx y).2, hh'⟩⟩, fun z => by rw [e45]; exact hx, hh', y1, Reach_1 hstep, y2, by omega, hpil, ⟨fun j hj => ?_, fun j hj => ?_⟩, by omega, fun i hi1 hi2 => ?_, fun y hy => ?_, by omega, by omega, hhh, fun z => z, y4⟩
    · rw [hon.1 _ _ (by decide), hc _ _ (by omega) (by omega) (by omega) (by omega)]
    · rw [hon.2 106 _ (by omega), hon.2 107 _ (by omega), rn _ _ (by omega) (by omega) (by omega), rn _ _ (by omega) (by omega) (by omega)]
      exact ⟨rfl, rfl⟩
    · have ei : i = s := by omega
      subst ei
      refine ⟨fun _ => ⟨c, o, (hon.2 106 _ (by omega)).trans at1, (hon.2 107 _ (by omega)).trans at2, (hon.1 _ _ (by decide)).trans h29, hc18, ho100, fun y => ?_, fun y => ?_, fun y => (hc45 y).elim⟩, fun z => by omega⟩
      · rcases hco with ⟨-, z⟩ | ⟨z, -⟩
        · exact z
        · omega
      · rcases hco with ⟨z, -⟩ | ⟨-, z⟩
        · omega
        · exact z
    · rw [show s + 1 - s = 0 + 1 by omega]
      show (some y).bind (hS (R3 106 (900 * b + s + 0))) = _
      rw [bind_some', show 900 * b + s + 0 = 900 * b + s by omega, hon.2 106 _ (by omega), at1]
      unfold hS
      rw [if_pos hcI, if_pos (hlt y hy)]
  · refine Or.inr ⟨f, q', DmC_mono y1 (fun kd z => ?_), Dn_reach (Reach_1 hstep) (Nat.le_refl _) (fun z => ?_) y2⟩
    · unfold DW at z ⊢
      rw [eag] at z
      exact z
    · dsimp only
      rw [e45]
      exact hx
end ONE3
