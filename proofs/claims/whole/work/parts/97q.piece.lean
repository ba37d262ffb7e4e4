/-! ===== expressions: failing readers, how a piece ends ===== -/
section BRK
variable {sub : Int → Mem → Option Mem} {d : Int}
theorem brk_both (h : ∀ C, C 40 4 = 24 → sub d C = some C) (C : Mem) (hc : C 40 4 = 24) : N_readBoth sub d C = some C := by
  have e : N_readBoth_b7 sub d (0, C) = some (.inr C) := by
    unfold N_readBoth_b7
    dsimp only
    rw [hc, if_neg (fun z => absurd z.2 (by decide))]
  unfold N_readBoth
  rw [h C hc, bind_some', show FUEL = 9999999 + 1 from rfl, it_last e, bind_some']
theorem brk_alt (h : ∀ C, C 40 4 = 24 → sub d C = some C) (C : Mem) (hc : C 40 4 = 24) : N_readAlt sub d C = some C := by
  have e : N_readAlt_b7 sub d (0, C) = some (.inr C) := by
    unfold N_readAlt_b7
    dsimp only
    rw [hc, if_neg (fun z => absurd z.2 (by decide))]
  unfold N_readAlt
  rw [brk_both h C hc, bind_some', show FUEL = 9999999 + 1 from rfl, it_last e, bind_some']
theorem brk_e (h : ∀ C, C 40 4 = 24 → sub d C = some C) (C : Mem) (hc : C 40 4 = 24) : N_readE sub d C = some C := by
  unfold N_readE
  rw [brk_alt h C hc, bind_some', hc, if_neg (by decide)]
theorem brk_sum (h : ∀ C, C 40 4 = 24 → sub d C = some C) (C : Mem) (hc : C 40 4 = 24) : N_readSum sub d C = some C := by
  have e : N_readSum_b7 sub d (0, C) = some (.inr C) := by
    unfold N_readSum_b7
    dsimp only
    rw [hc, if_neg (show ¬ (n32 24 = 43 ∨ n32 24 = 45) by decide)]
    split <;> rfl
  unfold N_readSum
  rw [h C hc, bind_some', show FUEL = 9999999 + 1 from rfl, it_last e, bind_some']
theorem brk_any (h : ∀ C, C 40 4 = 24 → sub d C = some C) (C : Mem) (hc : C 40 4 = 24) : N_readAny sub d C = some C := by
  unfold N_readAny
  rw [brk_sum h C hc, bind_some', lt1_eq, hc, if_neg (by decide)]
theorem brk_f (h : ∀ C, C 40 4 = 24 → sub d C = some C) (C : Mem) (hc : C 40 4 = 24) : N_readF sub d C = some C := by
  have e : N_readF_b7 sub d (0, C) = some (.inr C) := by
    unfold N_readF_b7
    dsimp only
    rw [hc, if_neg (fun z => absurd z.2 (by decide))]
  unfold N_readF
  rw [brk_any h C hc, bind_some', show FUEL = 9999999 + 1 from rfl, it_last e, bind_some']
theorem brk_takes (C : Mem) (hc : C 40 4 = 24) : N_takesUnit 0 d C = some (0, C) := by
  unfold N_takesUnit
  rw [hc, if_neg (fun z => absurd z.1 (by decide)), bind_some', if_neg nz0, bind_some', if_pos rfl, bk_fail hc, bind_some']
theorem brk_one : ∀ (k : Nat) (d : Int) (C : Mem), 0 < k → C 40 4 = 24 → N_readOne k d C = some C
  | 0, _, _, h, _ => by omega
  | k + 1, d, C, _, hc => by
    show N_readOne_s (N_readOne k) d C = some C
    unfold N_readOne_s N_readUnit
    rw [lt1_eq, hc, if_neg (by decide), bind_some', if_pos (by decide), if_neg (by decide), bind_some', if_neg (by decide), bind_some', brk_takes C hc, bind_some']
    dsimp only
    rw [if_pos (by decide), bind_some']
theorem brk_part : ∀ (k : Nat) (d : Int) (C : Mem), 0 < k → C 40 4 = 24 → N_readPart k d C = some C
  | 0, _, _, h, _ => by omega
  | k + 1, d, C, _, hc => by
    show N_readPart_s (N_readPart k) d C = some C
    unfold N_readPart_s
    rw [lt1_eq, hc, if_neg (by decide), bind_some', if_neg (by decide), bind_some', brk_takes C hc, bind_some']
    dsimp only
    rw [if_pos (by decide)]
end BRK
section PIECE
variable {md t b n s0 bare : Nat} {C0 R0 C R : Mem}
/-- where a state stands: good from q on, or failing -/
def GF (n q : Nat) (P : Prop) (C R : Mem) : Prop := (∃ kd p, q ≤ p ∧ Gd n kd p C R ∧ P) ∨ FB C R
/-- a step more ahead of a piece -/
theorem sim_comp {mx mx' sl sl' u u1 s h h2 m d p q k0 w : Nat} {Ex : Nat → Prop} {v v2 : Int} {C2 R2 C4 : Mem} (hr : Reach k0 (v, R) (v2, R2)) (hp : p + k0 ≤ q) (hpil : Pil m R R2) (hold : Old b s C R C2 R2) (h45 : K45 R R2) (hh : h ≤ h2) (hmx : mx' ≤ mx) (hsl : sl + 9 * u ≤ sl' + 9 * u1) (hu : u ≤ u1) (hres : GoodG md t b n s0 bare C0 R0 mx' sl' Ex u1 s h2 m d q C2 R2 v2 C4 ∨ FailG (DW md w m R2) b s0 R0 q R2 v2 C4) : GoodG md t b n s0 bare C0 R0 mx sl Ex u s h m d p C R v C4 ∨ FailG (DW md w m R) b s0 R0 p R v C4 := by
  have eag : ∀ r, agR r R2 m = agR r R m := fun r => agR_congr (fun k hk => (hpil k hk).1)
  rcases hres with ⟨R', u', s', h', kd', p', k, v1, v2, v2k, v2b, v3, v4, v5, v6, v7, v8, v9, v10, v11, v12, v13, v14, v15, v16⟩ | ⟨f, q', a1, a2⟩
  · rw [eag] at v16
    refine Or.inl ⟨R', u', s', h', kd', p', k0 + k, v1, v2, fun z => v2k (h45 z), v2b, v3, Reach_trans hr v4, by omega, by omega, fun i hi => ?_, ⟨fun i hi => ?_, fun i hi => ?_⟩, v9, v10, fun x hx => v11 x (by omega), by omega, by omega, by omega, v15, v16⟩
    · obtain ⟨z1, z2, z3⟩ := v7 i hi
      obtain ⟨x1, x2, x3⟩ := hpil i hi
      exact ⟨z1.trans x1, z2.trans x2, z3.trans x3⟩
    · exact (v8.1 i hi).trans (hold.1 i hi)
    · exact ⟨(v8.2 i hi).1.trans (hold.2 i hi).1, (v8.2 i hi).2.trans (hold.2 i hi).2⟩
  · refine Or.inr ⟨f, q', DmC_mono a1 (fun kd z => ?_), Dn_reach hr hp h45 a2⟩
    unfold DW at z ⊢
    rw [eag] at z
    exact z
/-- behind a unit: a token that can stand there, or both fail -/
theorem unit_end (hEnv : EnvX md t b n bare C0 R0) (hb : b < 2) {u s m d q : Nat} {P : Prop} (hX : XS t b s0 C0 R0 u s m d C R) (hm : m ≤ 100) (hq : q ≤ 1605) (hst : GF n q P C R) : (∃ kd p, Gd n kd p C R ∧ q ≤ p ∧ P ∧ ¬ (DM md kd ∧ agR (arM md) R m = true)) ∨ FailG (DW md 0 m R) b s0 R0 q R 0 C := by
  have hB := XF_TB hEnv.1 hEnv.2.1.1.1 hX.1
  have hsC : ∃ s : Nat, s ≤ 720 ∧ C 28 1 = (s : Int) := ⟨s, hX.2.1.2.1.2.2, hX.2.1.2.1.1⟩
  rcases hst with ⟨kd, p, z1, z2, z3⟩ | ⟨f, p, ⟨c1, c2, c3⟩, h6, hf | ⟨rfl, hbad⟩⟩
  · by_cases e : DM md kd ∧ agR (arM md) R m = true
    · right
      have hr : rkM md kd = arM md ∧ (arM md = 1 ∨ arM md = 5) := by
        obtain ⟨⟨rfl, rfl⟩ | ⟨rfl, y⟩, -⟩ := e
        · exact ⟨rfl, Or.inl rfl⟩
        · refine ⟨?_, Or.inr rfl⟩
          rcases y with y | y | y <;> subst y <;> rfl
      have hrk := rank_m hEnv hX z2
      rw [hr.1] at hrk
      refine ⟨2, (p : Int), ⟨hsC, Or.inr ⟨rfl, ⟨kd, ⟨e.1, Or.inr e.2⟩, z2.2.2.2.2.2.1⟩, z2.2.2.1⟩⟩, ?_⟩
      obtain ⟨j, R', j1, j2, j3⟩ := dn_again hX hm z2 hB.1 hrk hr.2 e.2
      exact ⟨j, R', by omega, j2, j3⟩
    · exact Or.inl ⟨kd, p, z2, z1, z3, e⟩
  · exact Or.inr ⟨f, p, ⟨hsC, Or.inl ⟨c1, c2, c3⟩⟩, Dn_flt hq hf h6 hX.1.2⟩
  · exact Or.inr ⟨1, p, ⟨hsC, Or.inl ⟨c1, c2, c3⟩⟩, dn_bad0 hb hX hm hq hbad h6⟩
/-- no unit here -/
theorem unit_fail (hEnv : EnvX md t b n bare C0 R0) {u s m d p kd w : Nat} {f v : Int} (hX : XS t b s0 C0 R0 u s m d C R) (g : Gd n kd p C R) (h1 : 0 < f) (h2 : f < 10) {C1 : Mem} (h28 : C1 28 1 = C 28 1) (h40 : C1 40 5 = C 40 5) {x : Int} (hstep : M_e_b20 (v, R) = some (.inl (x, up (up R 81 4 f) 81 5 (p : Int)))) : FailG (DW md w m R) b s0 R0 p R v (failC C1 f) := by
  have hB := XF_TB hEnv.1 hEnv.2.1.1.1 hX.1
  obtain ⟨q1, q2, q3⟩ := failC_at (C := C1) (f := f)
  obtain ⟨-, -, g5, g6, ⟨e, e1, e2, -⟩, -⟩ := g
  have hn := hB.1
  refine ⟨f, (p : Int), ⟨⟨s, hX.2.1.2.1.2.2, ?_⟩, Or.inl ⟨q1, q2, by rw [q3, h40]; exact g5⟩⟩, ?_⟩
  · unfold failC
    rw [up_c (by decide), up_c (by decide), up_c (by decide), h28]
    exact hX.2.1.2.1.1
  · refine ⟨2, _, by omega, by omega, by rw [it_step hstep]; exact it_last (e_flt (up45_flt h1 h2)), ⟨⟨p, by omega, by rw [up45_6]; exact g6⟩, Or.inl (up45_flt h1 h2)⟩, RE_45 hX.1.2 _ _, fun z => ?_⟩
    dsimp only at z
    rw [up_k (by decide), up_k (by decide)]
    exact z
end PIECE
