/-! ===== what a person knows, as told ===== -/
theorem cnt_set : ∀ k, k < 256 → ∀ f, f < 8 → k.testBit f = false → cnt (k ||| 2 ^ f).testBit 8 = cnt k.testBit 8 + 1 ∧ k ||| 2 ^ f < 256 := by decide +kernel
theorem cnt_one : ∀ f, f < 8 → cnt (2 ^ f).testBit 8 = 1 ∧ 2 ^ f < 256 := by decide +kernel
section KNOWN
variable {n t b s : Nat} {C0 R0 C R : Mem}
/-- a state whose reference may differ in one place of one cell -/
theorem S3_97 {q : Nat} {P : Prop} {l : Nat} {v : Int} (h : S3 n q P C0 (up R0 97 l (R 97 l)) C R) : S3 n q P C0 (up R0 97 l v) C (up R 97 l v) := by
  have := S3_up h (c := 97) (k := l) (v := v) (by decide)
  rw [up_up] at this
  exact this
/-- what the finding of facts rests on -/
def HF (t b : Nat) (C0 R0 : Mem) : Prop := HdP t b C0 R0 ∧ ∃ nf : Nat, nf ≤ 8 ∧ C0 t 0 = (nf : Int) ∧ R0 84 b = (nf : Int) ∧ NmQ 32 93 (8 * b) nf C0 R0
theorem HF_of (hI : PI t b s C0 R0) : HF t b C0 R0 := ⟨hI.1, nF R0 b, (num_F hI.2.1).2.2, (num_F hI.2.1).2.1, (num_F hI.2.1).1, hI.2.2.1.1⟩
theorem HF_up (h : HF t b C0 R0) {c k : Nat} {v : Int} (h1 : c ≠ 81) (h2 : c ≠ 84) (h3 : c ≠ 93) : HF t b C0 (up R0 c k v) := by
  obtain ⟨⟨q1, q2, q3, q4⟩, nf, q5, q6, q7, q8⟩ := h
  exact ⟨⟨q1, q2, q3, by rw [up_c (Ne.symm h1)]; exact q4⟩, nf, q5, q6, by rw [up_c (Ne.symm h2)]; exact q7, NmQ_keep q8 (fun _ _ => rfl) (fun _ _ => up_c (Ne.symm h3))⟩
theorem hereFa (hI : HF t b C0 R0) (h : OnT C0 R0 C R) : ∃ v, M_factHere R = some v ∧ (n32 (R 81 8) ≠ 2 → v = -1) := by
  obtain ⟨⟨ht, hb, h27, h39⟩, nf, q5, q6, q7, q8⟩ := hI
  obtain ⟨a1, a2, a3, a4, a5, a6⟩ := facts_aJ
  have e39 : R 81 39 = (b : Int) := (h.2 _ _ (by omega)).trans h39
  obtain ⟨v, e, q1, q2⟩ := here_any (C0 := C0) (R0 := R0) (C := C) (R := R) h (rc := 93) (off := 8 * b) (cnt := nf) a4 (by omega) (by omega)
  refine ⟨v, ?_, q2⟩
  unfold M_factHere
  rw [e39, chk_pos (by omega), tn_nat, h.2 84 _ (by omega), q7, show 8 * (b : Int) = ((8 * b : Nat) : Int) by omega, e]
  rfl
theorem foundFa (hI : HF t b C0 R0) (h : OnT C0 R0 C R) (hT : Tok n 21 C R) : ∃ v, N_findFact C = some v ∧ M_factHere R = some v ∧ (v = -1 ∨ ∃ i : Nat, i < 8 ∧ v = (i : Int)) := by
  obtain ⟨⟨ht, hb, h27, h39⟩, nf, q5, q6, q7, q8⟩ := hI
  obtain ⟨a1, a2, a3, a4, a5, a6⟩ := facts_aJ
  have ht2 : t ≤ 15 := by unfold isT at ht; omega
  have e39 : R 81 39 = (b : Int) := (h.2 _ _ (by omega)).trans h39
  have e27 : C 27 16 = (t : Int) := (h.1 _ _ (by omega)).trans h27
  obtain ⟨v, e1, e2, q1⟩ := find_here h hT (cc := 32) (rc := 93) (off := 8 * b) (cnt := nf) (by decide) (by decide) q8 a1 (by omega) a4 (by omega) (by omega) (by omega)
  refine ⟨v, ?_, ?_, ?_⟩
  · unfold N_findFact
    rw [e27, chk_pos (isTI_of rfl ht), lt1_eq, tn_nat, h.1 t _ (by omega), q6, e1]
    rfl
  · unfold M_factHere
    rw [e39, chk_pos (by omega), tn_nat, h.2 84 _ (by omega), q7, show 8 * (b : Int) = ((8 * b : Nat) : Int) by omega, e2]
    rfl
  · rcases q1 with q1 | ⟨i, q1, q2⟩
    · exact Or.inl q1
    · exact Or.inr ⟨i, by omega, q2⟩
theorem bit21 (hB : TB n C0 R0) (hI : HF t b C0 R0) (hon : OnT C0 R0 C R) {p : Nat} (g : Gd n 21 p C R) {l kn : Nat} (hl : l < 16) (hkn : kn < 256) (h97 : R 97 l = (kn : Int)) (fl : Int) : ∃ x C' y R', N_readFactBit (kn : Int) C = some (x, C') ∧ M_readPerson_b99 (l : Int) (fl, R) = some (.inl (0, up R' 97 l y)) ∧ OnT C0 R0 C' R' ∧ ((∃ i, i < 8 ∧ kn.testBit i = false ∧ x = ((2 ^ i : Nat) : Int) ∧ y = ((kn ||| 2 ^ i : Nat) : Int) ∧ S3 n (p + 1) True C0 R0 C' R') ∨ (C' 40 4 = 24 ∧ FB C' R' ∧ ∃ f p, Flt R' f p)) := by
  have gT := g.2.2.2.2.2
  have hg1 := g.2.1.1
  obtain ⟨f, w1, w2, w3⟩ := foundFa hI hon gT
  have h8 := (Tok_2 gT).mpr rfl
  unfold N_readFactBit M_readPerson_b99
  dsimp only
  rw [sees_gd g, if_pos rfl, bind_some', gd_good hg1, bind_some', if_pos nz1, if_pos (Or.inr h8), w2, bind_some', tn_nat, h97]
  dsimp only
  rw [if_pos nz1, w1, bind_some', bind_some']
  rcases w3 with rfl | ⟨i, hi, rfl⟩
  · rw [if_pos (by decide), gd_failC g, bind_some', if_neg (by decide), bind_some', if_neg (by decide), bind_some', told_m1 g, bind_some']
    refine ⟨_, _, _, _, rfl, rfl, up45_on (failC_on hon _) _ _, Or.inr ⟨failC_at.1, both_fail hB g (by decide) (by decide), _, _, up45_flt (by decide) (by decide)⟩⟩
  · rw [n32_nat (by omega), if_neg (by omega), X_hasBit_eq (by omega) (by omega), bind_some', if_pos (show (0 : Int) ≤ ((i : Nat) : Int) by omega), hb_eq (by omega) (by omega)]
    cases hb : kn.testBit i with
    | true =>
      rw [if_pos rfl, if_pos nz1, gd_failC g, bind_some', bind_some', bk_pass failC_at.1, bind_some', if_pos (by decide), bind_some', if_pos rfl, gd_fails hg1, g.2.2.2.1, bind_some', bind_some', told_fl (up45_flt (by decide) (by decide)), bind_some']
      refine ⟨_, _, _, _, rfl, rfl, up45_on (failC_on hon _) _ _, Or.inr ⟨failC_at.1, both_fail hB g (by decide) (by decide), _, _, up45_flt (by decide) (by decide)⟩⟩
    | false =>
      obtain ⟨C', R', k1, k2, k3⟩ := pass_ok hB hon g
      rw [if_neg (by decide)] at k3
      rw [if_neg (by decide), bind_some', k1, bind_some', if_neg (by decide), bind_some', if_neg (by decide), bind_some', told_i g (by omega) k2, bind_some']
      dsimp only
      rw [lt1_eq, ishl_1 (by omega), h97, ior_nat (by omega) (by have := (cnt_one i (by omega)).2; omega)]
      exact ⟨_, _, _, _, rfl, rfl, k3.1, Or.inl ⟨i, by omega, hb, rfl, rfl, k3⟩⟩
theorem b99_end {l fl : Int} (h : (∃ f p, Flt R f p) ∨ (fl = 0 ∧ n32 (R 81 8) ≠ 2 ∧ R 81 4 = 0)) : M_readPerson_b99 l (fl, R) = some (.inr R) := by
  unfold M_readPerson_b99
  dsimp only
  rcases h with ⟨f, p, h⟩ | ⟨rfl, h, h4⟩
  · rw [fl_good h, bind_some', if_neg nz0]
  · rw [gd_good h4, bind_some', if_pos nz1, if_neg (by rintro (z | z); exact nz0 z; exact h z)]
theorem b8_end {k : Int} {j : Nat} (h : n32 (C 40 4) ≠ 21) : N_readKnown_b8 (k, (j : Int), C) = some (.inr (k, C)) := by
  unfold N_readKnown_b8
  dsimp only
  rw [if_neg (fun z => h z.2)]
theorem FB_97 {l : Nat} {v : Int} (h : FB C R) : FB C (up R 97 l v) := by
  obtain ⟨f, p, c1, q1, q2⟩ := h
  have e : ∀ j, up R 97 l v 81 j = R 81 j := fun j => up_c (by decide)
  refine ⟨f, p, c1, ?_⟩
  unfold FBr Flt BadT
  simp only [e]
  exact ⟨q1, q2⟩
theorem Flt_97 {l : Nat} {v f p : Int} (h : Flt R f p) : Flt (up R 97 l v) f p := by
  have e : ∀ j, up R 97 l v 81 j = R 81 j := fun j => up_c (by decide)
  unfold Flt
  simp only [e]
  exact h
theorem OnT_97 {l : Nat} {v w : Int} (h : OnT C0 (up R0 97 l w) C R) : OnT C0 (up R0 97 l v) C (up R 97 l v) := by
  refine ⟨h.1, fun c k z => ?_⟩
  by_cases z2 : c = 97 ∧ k = l
  · rw [up_at, if_pos z2, up_at, if_pos z2]
  · rw [up_at, if_neg z2, h.2 c k z, up_at, if_neg z2, up_at, if_neg z2]
theorem known_loop (hB : TB n C0 R0) (hI : HF t b C0 R0) {l : Nat} (hl : l < 16) {q : Nat} : ∀ (d j kn : Nat) (C R : Mem), j + d = 8 → kn < 256 → cnt kn.testBit 8 = j + 1 → R 97 l = (kn : Int) → S3 n q True C0 (up R0 97 l (R 97 l)) C R → ∀ f, d + 3 ≤ f → ∃ x C' R', it N_readKnown_b8 f ((kn : Int), (j : Int), C) = some (x, C') ∧ it (M_readPerson_b99 (l : Int)) f (0, R) = some R' ∧ S3 n q (∃ k : Nat, k < 256 ∧ x = (k : Int) ∧ R' 97 l = (k : Int)) C0 (up R0 97 l (R' 97 l)) C' R'
  | 0, j, kn, C, R, hj, hk, hc, _, _ => by
    have := cnt_le kn.testBit 8
    omega
  | d + 1, j, kn, C, R, hj, hk, hc, h97, hS => by
    intro f hf
    obtain ⟨f, rfl⟩ : ∃ f', f = f' + 1 := ⟨f - 1, by omega⟩
    have hB' : TB n C0 (up R0 97 l (R 97 l)) := TB_up hB (by decide) (by decide)
    have hI' : HF t b C0 (up R0 97 l (R 97 l)) := HF_up hI (by decide) (by decide) (by decide)
    obtain ⟨hon, ⟨kd, p, hq, g, -⟩ | hfb⟩ := hS
    · have gT := g.2.2.2.2.2
      have hkd := Tok_kd gT
      by_cases e : kd = 21
      · subst e
        obtain ⟨x, C', y, R', k1, k2, k3, k4⟩ := bit21 hB' hI' hon g hl hk h97 0
        have st1 : N_readKnown_b8 ((kn : Int), (j : Int), C) = some (.inl (ior' (kn : Int) x, ((j + 1 : Nat) : Int), C')) := by
          unfold N_readKnown_b8
          dsimp only
          rw [n32_nat (by omega), Tok_4 gT, if_pos ⟨by omega, by decide⟩, k1, bind_some']
          rfl
        rw [it_step st1, it_step k2]
        rcases k4 with ⟨i, hi, hb, rfl, rfl, k5⟩ | ⟨k5, k6, fv, fp, k7⟩
        · obtain ⟨cs1, cs2⟩ := cnt_set kn hk i hi hb
          rw [ior_nat (by omega) (by have := (cnt_one i hi).2; omega)]
          refine known_loop hB hI hl d (j + 1) (kn ||| 2 ^ i) C' (up R' 97 l _) (by omega) cs2 (by omega) up_eq ?_ f (by omega)
          rw [up_eq]
          have h6 := S3_up k5 (c := 97) (k := l) (v := ((kn ||| 2 ^ i : Nat) : Int)) (by decide)
          rw [up_up] at h6
          exact S3_mono h6 (by omega) (fun z => z)
        · obtain ⟨f, rfl⟩ : ∃ f', f = f' + 1 := ⟨f - 1, by omega⟩
          rw [it_last (b8_end (by rw [k5]; decide)), it_last (b99_end (Or.inl ⟨fv, fp, Flt_97 k7⟩))]
          refine ⟨_, _, _, rfl, rfl, ?_, Or.inr (FB_97 k6)⟩
          rw [up_eq]
          exact OnT_97 k3
      · have h8 : n32 (R 81 8) ≠ 2 := fun z => e ((Tok_2 gT).mp z)
        rw [it_last (b8_end (by rw [Tok_4 gT]; omega)), it_last (b99_end (Or.inr ⟨rfl, h8, g.2.1.1⟩))]
        exact ⟨_, _, _, rfl, rfl, hon, Or.inl ⟨kd, p, hq, g, kn, hk, rfl, h97⟩⟩
    · have hfb2 := hfb
      obtain ⟨fv, fp, ⟨c1, c2, c3⟩, -, hf2 | ⟨-, hbad⟩⟩ := hfb
      · rw [it_last (b8_end (by rw [c1]; decide)), it_last (b99_end (Or.inl ⟨_, _, hf2⟩))]
        exact ⟨_, _, _, rfl, rfl, hon, Or.inr hfb2⟩
      · rw [it_last (b8_end (by rw [c1]; decide)), it_last (b99_end (Or.inr ⟨rfl, by rw [hbad.2.1]; decide, hbad.1⟩))]
        exact ⟨_, _, _, rfl, rfl, hon, Or.inr hfb2⟩
theorem known_ok (hB : TB n C0 R0) (hI : HF t b C0 R0) {l : Nat} (hl : l < 16) {q : Nat} (h97 : R 97 l = 0) (hS : S3 n q True C0 (up R0 97 l (R 97 l)) C R) : ∃ x C' R', N_readKnown C = some (x, C') ∧ it (M_readPerson_b99 (l : Int)) FUEL (1, R) = some R' ∧ S3 n q (∃ k : Nat, k < 256 ∧ x = (k : Int) ∧ R' 97 l = (k : Int)) C0 (up R0 97 l (R' 97 l)) C' R' := by
  have hB' : TB n C0 (up R0 97 l (R 97 l)) := TB_up hB (by decide) (by decide)
  have hI' : HF t b C0 (up R0 97 l (R 97 l)) := HF_up hI (by decide) (by decide) (by decide)
  have h97' : R 97 l = ((0 : Nat) : Int) := h97
  have fue : ∀ {α β : Type} (body : α → Option (α ⊕ β)) (a : α), it body FUEL a = it body (9999999 + 1) a := fun _ _ => rfl
  unfold N_readKnown
  obtain ⟨hon, ⟨kd, p, hq, g, -⟩ | hfb⟩ := hS
  · have gT := g.2.2.2.2.2
    have hkd := Tok_kd gT
    by_cases e : kd = 21
    · subst e
      obtain ⟨x, C', y, R', k1, k2, k3, k4⟩ := bit21 hB' hI' hon g hl (by decide) h97' 1
      rw [show ((0 : Nat) : Int) = 0 from rfl] at k1
      rw [k1, bind_some', fue (M_readPerson_b99 (l : Int)), it_step k2]
      dsimp only
      rcases k4 with ⟨i, hi, hb, rfl, rfl, k5⟩ | ⟨k5, k6, fv, fp, k7⟩
      · obtain ⟨cs1, cs2⟩ := cnt_one i hi
        have h6 := S3_up k5 (c := 97) (k := l) (v := ((0 ||| 2 ^ i : Nat) : Int)) (by decide)
        rw [up_up] at h6
        obtain ⟨x, C2, R2, z1, z2, z3⟩ := known_loop hB hI hl (q := q) 8 0 (2 ^ i) C' (up R' 97 l ((0 ||| 2 ^ i : Nat) : Int)) (by omega) cs2 cs1 (by rw [up_eq, Nat.zero_or]) (by rw [up_eq]; exact S3_mono h6 (by omega) (fun z => z)) 9999999 (by omega)
        refine ⟨x, C2, R2, ?_, z2, z3⟩
        rw [show ((0 : Nat) : Int) = 0 from rfl] at z1
        rw [it_mono 9999999 FUEL _ (by unfold FUEL; omega) z1]
        rfl
      · rw [show (9999999 : Nat) = 9999998 + 1 from rfl, it_last (b99_end (Or.inl ⟨fv, fp, Flt_97 k7⟩))]
        have e8 := b8_end (C := C') (k := x) (j := 0) (by rw [k5]; decide)
        rw [show ((0 : Nat) : Int) = 0 from rfl] at e8
        rw [fue N_readKnown_b8, it_last e8]
        refine ⟨_, _, _, rfl, rfl, ?_, Or.inr (FB_97 k6)⟩
        rw [up_eq]
        exact OnT_97 k3
    · have h8 : n32 (R 81 8) ≠ 2 := fun z => e ((Tok_2 gT).mp z)
      obtain ⟨f, w1, w3⟩ := hereFa hI' hon
      obtain ⟨y, w4⟩ := told_no g e (w := f)
      have hbit : N_readFactBit 0 C = some (0, failC C 2) := by
        unfold N_readFactBit
        rw [sees_gd g, if_neg e, bind_some']
        dsimp only
        rw [if_neg nz0, bind_some', if_pos (by decide), bk_fail failC_at.1]
        rfl
      have hb99 : M_readPerson_b99 (l : Int) (1, R) = some (.inl (0, up (up (up R 81 4 2) 81 5 (p : Int)) 97 l (ior' (R 97 l) (ishl 1 y)))) := by
        unfold M_readPerson_b99
        dsimp only
        rw [gd_good g.2.1.1, bind_some', if_pos nz1, if_pos (Or.inl nz1), w1, bind_some', w3 h8, if_neg (by decide), bind_some', if_neg (by decide), bind_some', ← w3 h8, w4, bind_some', tn_nat]
        rfl
      rw [hbit, bind_some', fue (M_readPerson_b99 (l : Int)), it_step hb99, show (9999999 : Nat) = 9999998 + 1 from rfl, it_last (b99_end (Or.inl ⟨_, _, Flt_97 (up45_flt (by decide) (by decide))⟩))]
      dsimp only
      have e8 := b8_end (C := failC C 2) (k := 0) (j := 0) (by rw [failC_at.1]; decide)
      rw [show ((0 : Nat) : Int) = 0 from rfl] at e8
      rw [fue N_readKnown_b8, it_last e8]
      refine ⟨_, _, _, rfl, rfl, ?_, Or.inr (FB_97 (both_fail hB' g (by decide) (by decide)))⟩
      rw [up_eq]
      have k3 := up45_on (failC_on hon 2) 2 (p : Int)
      exact OnT_97 k3
  · have hfb2 := hfb
    obtain ⟨fv, fp, ⟨c1, c2, c3⟩, hq6, hf2 | ⟨e1, hbad⟩⟩ := hfb
    · have e8 := b8_end (C := C) (k := 0) (j := 0) (by rw [c1]; decide)
      rw [show ((0 : Nat) : Int) = 0 from rfl] at e8
      rw [bk_bit c1, bind_some', fue (M_readPerson_b99 (l : Int)), it_last (b99_end (Or.inl ⟨_, _, hf2⟩))]
      dsimp only
      rw [fue N_readKnown_b8, it_last e8]
      exact ⟨_, _, _, rfl, rfl, hon, Or.inr hfb2⟩
    · have e8 := b8_end (C := C) (k := 0) (j := 0) (by rw [c1]; decide)
      rw [show ((0 : Nat) : Int) = 0 from rfl] at e8
      obtain ⟨f, w1, w3⟩ := hereFa hI' hon
      obtain ⟨y, w4⟩ := told_bad hbad (w := f)
      have h8 : n32 (R 81 8) ≠ 2 := by rw [hbad.2.1]; decide
      have hb99 : M_readPerson_b99 (l : Int) (1, R) = some (.inl (0, up (up (up R 81 4 1) 81 5 fp) 97 l (ior' (R 97 l) (ishl 1 y)))) := by
        unfold M_readPerson_b99
        dsimp only
        rw [gd_good hbad.1, bind_some', if_pos nz1, if_pos (Or.inl nz1), w1, bind_some', w3 h8, if_neg (by decide), bind_some', if_neg (by decide), bind_some', ← w3 h8, w4, bind_some', tn_nat]
        rfl
      rw [bk_bit c1, bind_some', fue (M_readPerson_b99 (l : Int)), it_step hb99, show (9999999 : Nat) = 9999998 + 1 from rfl, it_last (b99_end (Or.inl ⟨_, _, Flt_97 (up45_flt (by decide) (by decide))⟩))]
      dsimp only
      rw [fue N_readKnown_b8, it_last e8]
      refine ⟨_, _, _, rfl, rfl, ?_, Or.inr (FB_97 ⟨fv, fp, ⟨c1, c2, c3⟩, ?_, Or.inl ?_⟩)⟩
      · rw [up_eq]
        have k3 := up45_on hon 1 fp
        exact OnT_97 k3
      · obtain ⟨q6, h1, h2⟩ := hq6
        exact ⟨q6, h1, by rw [up45_6]; exact h2⟩
      · rw [e1]
        exact up45_flt (by decide) (by decide)
end KNOWN
