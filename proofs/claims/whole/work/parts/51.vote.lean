/-! ===== operation: vote ===== -/
def vcV (R : Mem) (p r w : Nat) : Int := if ansV R p r w = 1 then 1 else if ansV R p r w = 0 then -1 else 0
def vgN (R : Mem) (b r w : Nat) (car : Bool) (i : Nat) : Int := if car then 2 + (vcV R (tOne R b i) r w + vcV R (tTwo R b i) r w) else 2 - (vcV R (tOne R b i) r w + vcV R (tTwo R b i) r w)
def tst (R : Mem) (b : Nat) (g : Nat → Int) (wt : Int) : Nat → Int
  | 0 => -1
  | n + 1 => if (tst R b g wt n < 0 ∨ (popc n : Int) < tst R b g wt n) ∧ apB R b n = true ∧ wt ≤ sumG g n (nT R b) then (popc n : Int) else tst R b g wt n
theorem popc_add {s j : Nat} (h : s < 2 ^ j) (hj : j < 31) : popc (s + 2 ^ j) = popc s + 1 := by
  unfold popc
  rw [cnt_cut (m := j + 1) (n := 31) (by omega) (fun i h1 h2 => by rw [add_tb h, testBit_lt8 h (by omega), decide_eq_false (by omega), Bool.or_false])]
  rw [cnt_cut (p := s.testBit) (m := j) (n := 31) (by omega) (fun i h1 h2 => testBit_lt8 h h1)]
  show cnt _ j + (if (s + 2 ^ j).testBit j = true then 1 else 0) = _
  rw [add_tb h, decide_eq_true rfl, Bool.or_true, if_pos rfl]
  rw [cnt_congr (q := s.testBit) (fun i hi => by rw [add_tb h, decide_eq_false (by omega), Bool.or_false])]
theorem popc_mono {s T : Nat} (h : ∀ i, s.testBit i = true → T.testBit i = true) : popc s ≤ popc T := cnt_mono (fun i _ => h i)
theorem popc_n {T n : Nat} (h : T < 2 ^ n) (hn : n ≤ 31) : popc T ≤ n := by
  unfold popc
  rw [cnt_cut (m := n) (n := 31) hn (fun i h1 h2 => testBit_lt8 h h1)]
  exact cnt_le _ _
section VOTE
variable {t b : Nat} {C R : Mem}
theorem vc_rng (p r w : Nat) : -1 ≤ vcV R p r w ∧ vcV R p r w ≤ 1 := by
  unfold vcV
  split
  · omega
  · split <;> omega
theorem vg_rng (r w : Nat) (car : Bool) (i : Nat) : 0 ≤ vgN R b r w car i ∧ vgN R b r w car i ≤ 4 := by
  have h1 := vc_rng (R := R) (tOne R b i) r w
  have h2 := vc_rng (R := R) (tTwo R b i) r w
  unfold vgN
  cases car <;> simp only [if_true, Bool.false_eq_true, if_false] <;> omega
theorem vsum_rng (r w : Nat) (car : Bool) (s : Nat) : ∀ n, 0 ≤ sumG (vgN R b r w car) s n ∧ sumG (vgN R b r w car) s n ≤ 4 * (n : Int)
  | 0 => by show (0 : Int) ≤ 0 ∧ (0 : Int) ≤ 4 * ((0 : Nat) : Int); decide
  | n + 1 => by
    have ih := vsum_rng r w car s n
    have h1 := vg_rng (R := R) (b := b) r w car n
    show 0 ≤ sumG (vgN R b r w car) s n + (if s.testBit n then vgN R b r w car n else 0) ∧ sumG (vgN R b r w car) s n + (if s.testBit n then vgN R b r w car n else 0) ≤ _
    split <;> push_cast <;> omega
theorem T_count_eq (ht : isT t) (hT : Town t b C R) {r w : Nat} (hr : r < nR R b) (hw : w < 2 ^ nF R b) (hwb : isB R w = true) {a : Int} (ha : n32 a = a) : T_countAnswering t (r : Int) (w : Int) a C = some ((cnt (fun p => decide (ansV R p r w = a)) (nP R b) : Nat) : Int) := by
  have hP := num_P hT.1
  have hF := num_F hT.1
  have L := it_for (body := T_countAnswering_b6 t (r : Int) (w : Int) a C) (a := (0, 0)) (b := ((cnt (fun p => decide (ansV R p r w = a)) (nP R b) : Nat) : Int)) (fun i => (((cnt (fun p => decide (ansV R p r w = a)) i : Nat) : Int), (i : Int))) (nP R b) (by unfold FUEL; omega) rfl ?_ ?_
  · unfold T_countAnswering
    rw [L]; rfl
  · intro i hi
    have hA := (hT.2.2.2.2.2.2.2.1 i r w hi hr (by have := (pow_wd hF.2.2).1; omega)).1 hwb
    have ec : ∀ q : Nat → Bool, cnt q (i + 1) = cnt q i + (if q i = true then 1 else 0) := fun q => rfl
    unfold T_countAnswering_b6
    dsimp only
    rw [hP.2.1, n32_nat (by omega), n32_nat (by omega), if_pos (by omega), T_answer_eq ht hT.1 hT.2.2.2.2.2.2.2.1 hi hr hw hwb, bind_some', ha, n32_of (a := ansV R i r w) (by omega) (by omega), ec]
    by_cases q : ansV R i r w = a
    · rw [if_pos q, decide_eq_true q]; rfl
    · rw [if_neg q, decide_eq_false q]; rfl
  · unfold T_countAnswering_b6
    dsimp only
    rw [hP.2.1, if_neg (by omega)]
theorem M_count_eq (hb : b < 2) (h38 : R 81 38 = (b : Int)) (hT : Town t b C R) {r w : Nat} (hr : r < nR R b) (hw : w < 2 ^ nF R b) (hwb : isB R w = true) : it (M_vote_b36 (r : Int) (w : Int) R) FUEL (0, 0, 0) = some (((cnt (fun p => decide (ansV R p r w = 1)) (nP R b) : Nat) : Int), ((cnt (fun p => decide (ansV R p r w = 0)) (nP R b) : Nat) : Int)) := by
  have hP := num_P hT.1
  have hR := num_R hT.1
  have hF := num_F hT.1
  have h6 := two_pow8 hF.2.2
  refine it_for (fun i => (((cnt (fun p => decide (ansV R p r w = 1)) i : Nat) : Int), ((cnt (fun p => decide (ansV R p r w = 0)) i : Nat) : Int), (i : Int))) (nP R b) (by unfold FUEL; omega) rfl ?_ ?_
  · intro i hi
    have hA := (hT.2.2.2.2.2.2.2.1 i r w hi hr (by have := (pow_wd hF.2.2).1; omega)).1 hwb
    have ec : ∀ q : Nat → Bool, cnt q (i + 1) = cnt q i + (if q i = true then 1 else 0) := fun q => rfl
    unfold M_vote_b36
    dsimp only
    rw [M_personMany_eq hb h38 hT.1, bind_some', n32_nat (by omega), n32_nat (by omega), if_pos (by omega), M_answerAt_eq (by omega) (by omega) (by omega), bind_some', ec, ec]
    rcases hA with e | e | e <;> rw [e] <;> rfl
  · unfold M_vote_b36
    dsimp only
    rw [M_personMany_eq hb h38 hT.1, bind_some', if_neg (by omega)]
theorem P_voice_eq (ht : isT t) (hT : Town t b C R) (h0 : C 76 0 = (t : Int)) {p r w : Nat} (hp : p < nP R b) (hr : r < nR R b) (hw : w < 2 ^ nF R b) (hwb : isB R w = true) : P_voice (p : Int) (r : Int) (w : Int) C = some (vcV R p r w) := by
  have hF := num_F hT.1
  have hA := (hT.2.2.2.2.2.2.2.1 p r w hp hr (by have := (pow_wd hF.2.2).1; omega)).1 hwb
  unfold P_voice
  rw [h0, chk_pos (isTI_of rfl ht), lt1_eq, tn_nat, T_answer_eq ht hT.1 hT.2.2.2.2.2.2.2.1 hp hr hw hwb, bind_some']
  unfold vcV
  rcases hA with e | e | e <;> rw [e] <;> rfl
def SV (t b r w : Nat) (car : Bool) (wt : Int) (C R M : Mem) : Prop := M 76 0 = (t : Int) ∧ M 76 4 = wt ∧ (∀ i, i < nT R b → M 77 i = vgN R b r w car i) ∧ ∀ c k, c ≠ 76 → c ≠ 77 → M c k = C c k
theorem seekF_eq (ht : isT t) (hT : Town t b C R) (r w : Nat) (car : Bool) {wt : Int} (hwt : 1 ≤ wt ∧ wt ≤ 9) : ∀ (d tie s : Nat) (M : Mem), tie ≤ nT R b → nT R b - tie < d → s < 2 ^ tie → apB R b s = true → SV t b r w car wt C R M → (0 ≤ M 76 5 ∧ M 76 5 ≤ 13) → Z (P_seekFewest d (tie : Int) (umB R b s tie : Int) (sumG (vgN R b r w car) s tie) (popc s : Int) M) (fun M' => SV t b r w car wt C R M' ∧ (0 ≤ M' 76 5 ∧ M' 76 5 ≤ M 76 5) ∧ (∀ T, T < 2 ^ nT R b → apB R b T = true → wt ≤ sumG (vgN R b r w car) T (nT R b) → T % 2 ^ tie = s → M' 76 5 ≤ (popc T : Int)) ∧ (M' 76 5 = M 76 5 ∨ ∃ T, T < 2 ^ nT R b ∧ apB R b T = true ∧ wt ≤ sumG (vgN R b r w car) T (nT R b) ∧ M' 76 5 = (popc T : Int)))
  | 0, tie, s, M, h1, h2, _, _, _, _ => by omega
  | d + 1, tie, s, M, h1, h2, hs, hv, hK, hr5 => by
    have hTn := num_T hT.1
    have hP := num_P hT.1
    have hp2 : 2 ^ nT R b ≤ 4096 := Nat.le_trans (Nat.pow_le_pow_right (by omega) hTn.2.2) (by decide)
    have hpt : 2 ^ tie ≤ 2 ^ nT R b := Nat.pow_le_pow_right (by omega) h1
    have hstop : sumG (vgN R b r w car) s (nT R b) = sumG (vgN R b r w car) s tie := sumG_stop h1 (fun i q1 q2 => testBit_lt8 hs q1)
    have hsr := vsum_rng (R := R) (b := b) r w car s tie
    have hps := popc_n hs (by omega)
    have ht2 : t ≤ 15 := by unfold isT at ht; omega
    have hsub : ∀ T, T % 2 ^ tie = s → popc s ≤ popc T := by
      intro T hm
      refine popc_mono (fun i hi => ?_)
      by_cases q : i < tie
      · rw [← mod_tb q, hm]; exact hi
      · rw [testBit_lt8 hs (by omega)] at hi; cases hi
    show Z (P_seekFewest_s (P_seekFewest d) _ _ _ _ M) _
    unfold P_seekFewest_s
    rw [n32_of (a := M 76 5) (by omega) (by omega), n32_nat (by omega)]
    by_cases q1 : M 76 5 ≤ (popc s : Int)
    · rw [if_pos q1]
      refine Z_of ⟨hK, ⟨hr5.1, Int.le_refl _⟩, fun T h1 h2 h3 h4 => ?_, Or.inl rfl⟩
      have := hsub T h4
      omega
    · rw [if_neg q1, hK.2.1, n32_of (a := wt) (by omega) (by omega), n32_of (a := sumG _ _ _) (by omega) (by omega)]
      by_cases q2 : wt ≤ sumG (vgN R b r w car) s tie
      · rw [if_pos q2, lt1_eq]
        refine Z_of ⟨⟨?_, ?_, fun i hi => ?_, fun c k z1 z2 => ?_⟩, ?_, fun T h1 h2 h3 h4 => ?_, Or.inr ⟨s, by omega, hv, by rw [hstop]; exact q2, up_eq⟩⟩
        · rw [up_k (by decide)]; exact hK.1
        · rw [up_k (by decide)]; exact hK.2.1
        · rw [up_c (by decide)]; exact hK.2.2.1 i hi
        · rw [up_c z1]; exact hK.2.2.2 c k z1 z2
        · rw [up_eq]; omega
        · rw [up_eq]
          have := hsub T h4
          omega
      · rw [if_neg q2, Z_bind_iff]
        refine it_Z (fun k st => st.1 = ((tie + k : Nat) : Int) ∧ SV t b r w car wt C R st.2 ∧ (0 ≤ st.2 76 5 ∧ st.2 76 5 ≤ M 76 5) ∧ (∀ m T, tie ≤ m → m < tie + k → T < 2 ^ nT R b → apB R b T = true → wt ≤ sumG (vgN R b r w car) T (nT R b) → T % 2 ^ (m + 1) = s + 2 ^ m → st.2 76 5 ≤ (popc T : Int)) ∧ (st.2 76 5 = M 76 5 ∨ ∃ T, T < 2 ^ nT R b ∧ apB R b T = true ∧ wt ≤ sumG (vgN R b r w car) T (nT R b) ∧ st.2 76 5 = (popc T : Int))) (nT R b - tie) (by unfold FUEL; omega) ⟨rfl, hK, ⟨hr5.1, Int.le_refl _⟩, fun m T z1 z2 => by omega, Or.inl rfl⟩ ?_ ?_
        · rintro k ⟨l, M2⟩ hk ⟨el, gK, gb, gT, gor⟩
          dsimp only at el gK gb gT gor
          subst el
          generalize hj : tie + k = j at *
          have hjn : j < nT R b := by omega
          have hs2 : s < 2 ^ j := Nat.lt_of_lt_of_le hs (Nat.pow_le_pow_right (by omega) (by omega))
          have hpj2 : 2 ^ (j + 1) = 2 * 2 ^ j := by rw [Nat.pow_succ]; omega
          have hTM : Town t b M2 R := Town_tw (fun c z q1 q2 => gK.2.2.2 c z (by omega) (by omega)) hT
          have hum : umB R b s j = umB R b s tie := umB_stop (by omega) (fun i q1 q2 => testBit_lt8 hs q1)
          have hsm : sumG (vgN R b r w car) s j = sumG (vgN R b r w car) s tie := sumG_stop (by omega) (fun i q1 q2 => testBit_lt8 hs q1)
          have u1 := umB_lt hT.2.2.2.1 hP.2.2 s j (by omega)
          have u2 := prM_lt hT.2.2.2.1 hP.2.2 hjn
          unfold P_seekFewest_b28
          dsimp only
          rw [gK.1, chk_pos (isTI_of rfl ht), lt1_eq, tn_nat, gK.2.2.2 t 3 (by omega) (by omega), hTn.2.1, n32_nat (by omega), n32_nat (by omega), if_pos (by omega), T_pairOf_eq hTM.2.2.2.1 hP.2.2 hTn.2.2 hjn, bind_some', ← hum, iand_nat (by omega) (by omega)]
          have hand : umB R b s j &&& prM R b j < 256 := Nat.lt_of_le_of_lt Nat.and_le_left u1
          rw [n32_nat (by omega)]
          by_cases q : ((umB R b s j &&& prM R b j : Nat) : Int) = 0
          · have hd0 : umB R b s j &&& prM R b j = 0 := by omega
            have hv2 := apB_add (R := R) (b := b) trivial hs2 hjn hv hd0
            have e1 : ior' (umB R b s j : Int) (prM R b j : Int) = (umB R b (s + 2 ^ j) (j + 1) : Int) := by rw [ior_nat (by omega) (by omega), umB_add hs2]
            have e2 : sumG (vgN R b r w car) s tie + vgN R b r w car j = sumG (vgN R b r w car) (s + 2 ^ j) (j + 1) := by rw [sumG_add hs2, hsm]
            have e3 : (popc s : Int) + 1 = (popc (s + 2 ^ j) : Int) := by rw [popc_add hs2 (by omega)]; rfl
            rw [if_pos q, chk_pos (by omega), tn_nat, gK.2.2.1 j hjn, e1, e2, e3, show (j : Int) + 1 = ((j + 1 : Nat) : Int) from rfl]
            obtain ⟨M3, e4, i1, i2, i5, i6⟩ := seekF_eq ht hT r w car hwt d (j + 1) (s + 2 ^ j) M2 (by omega) (by omega) (by omega) hv2 gK (by omega)
            rw [e4, bind_some', bind_some', lt1_eq]
            refine Z_of (Or.inl ⟨_, rfl, ?_, i1, by dsimp only; omega, fun m T z1 z2 hT2 hv3 hw3 hm => ?_, ?_⟩)
            · dsimp only; omega
            · dsimp only
              by_cases z : m = j
              · subst z
                exact i5 T hT2 hv3 hw3 hm
              · have := gT m T z1 (by omega) hT2 hv3 hw3 hm
                omega
            · dsimp only
              rcases i6 with z | z
              · rw [z]; exact gor
              · exact Or.inr z
          · rw [if_neg q, bind_some', lt1_eq]
            refine Z_of (Or.inl ⟨_, rfl, ?_, gK, gb, fun m T z1 z2 hT2 hv3 hw3 hm => ?_, gor⟩)
            · dsimp only; omega
            · dsimp only
              by_cases z : m = j
              · subst z
                exfalso
                apply q
                have hbj : T.testBit m = true := by
                  rw [← mod_tb (n := m + 1) (by omega), hm, add_tb hs2]
                  simp
                have hlow : ∀ i, i < m → T.testBit i = s.testBit i := by
                  intro i hi
                  rw [← mod_tb (n := m + 1) (by omega), hm, add_tb hs2, decide_eq_false (by omega), Bool.or_false]
                have h0 := apB_at hv3 hjn hbj
                rw [umB_congr hlow] at h0
                rw [h0]; rfl
              · exact gT m T z1 (by omega) hT2 hv3 hw3 hm
        · rintro ⟨l, M2⟩ ⟨el, gK, gb, gT, gor⟩
          dsimp only at el gK gb gT gor
          subst el
          unfold P_seekFewest_b28
          dsimp only
          rw [gK.1, chk_pos (isTI_of rfl ht), lt1_eq, tn_nat, gK.2.2.2 t 3 (by omega) (by omega), hTn.2.1, n32_nat (by omega), n32_nat (by omega), if_neg (by omega)]
          refine Z_of ⟨_, rfl, Z_of ⟨gK, gb, fun T hT2 hv3 hw3 hm => ?_, gor⟩⟩
          by_cases z : T = T % 2 ^ tie
          · rw [hm] at z
            subst z
            rw [hstop] at hw3
            exact absurd hw3 q2
          · obtain ⟨m, m1, m2, m3⟩ := least_bit hT2 z
            rw [hm] at m3
            have hlt : m < tie + (nT R b - tie) := by rw [Nat.add_sub_cancel' h1]; exact m2
            exact gT m T m1 hlt hT2 hv3 hw3 m3
theorem tst_spec (g : Nat → Int) (wt : Int) : ∀ n, (tst R b g wt n = -1 ∧ ∀ T, T < n → apB R b T = true → ¬ wt ≤ sumG g T (nT R b)) ∨ (∃ T, T < n ∧ apB R b T = true ∧ wt ≤ sumG g T (nT R b) ∧ tst R b g wt n = (popc T : Int) ∧ ∀ S, S < n → apB R b S = true → wt ≤ sumG g S (nT R b) → (popc T : Int) ≤ (popc S : Int))
  | 0 => Or.inl ⟨rfl, fun T hT => by omega⟩
  | n + 1 => by
    have ih := tst_spec g wt n
    by_cases q : (tst R b g wt n < 0 ∨ (popc n : Int) < tst R b g wt n) ∧ apB R b n = true ∧ wt ≤ sumG g n (nT R b)
    · have e : tst R b g wt (n + 1) = (popc n : Int) := by unfold tst; rw [if_pos q]
      refine Or.inr ⟨n, by omega, q.2.1, q.2.2, e, fun S hS ha hw => ?_⟩
      by_cases z : S = n
      · subst z; exact Int.le_refl _
      · rcases ih with ⟨i1, i2⟩ | ⟨T, i1, i2, i3, i4, i5⟩
        · exact absurd hw (i2 S (by omega) ha)
        · have := i5 S (by omega) ha hw
          omega
    · have e : tst R b g wt (n + 1) = tst R b g wt n := by
        show (if _ then _ else _) = _
        rw [if_neg q]
      rw [e]
      rcases ih with ⟨i1, i2⟩ | ⟨T, i1, i2, i3, i4, i5⟩
      · refine Or.inl ⟨i1, fun T hT ha hw => ?_⟩
        by_cases z : T = n
        · subst z
          exact q ⟨Or.inl (by omega), ha, hw⟩
        · exact i2 T (by omega) ha hw
      · refine Or.inr ⟨T, by omega, i2, i3, i4, fun S hS ha hw => ?_⟩
        by_cases z : S = n
        · subst z
          rcases Int.lt_or_le (popc S : Int) (popc T : Int) with y | y
          · exact absurd ⟨Or.inr (by omega), ha, hw⟩ q
          · exact y
        · exact i5 S (by omega) ha hw
theorem ex_pos {Y : Int} (h : -1000 ≤ Y ∧ Y ≤ 1000) : (if 0 < n32 Y then some (1 : Int) else some 0) = some (b1 (decide (0 < Y))) := by
  rw [n32_of (by omega) (by omega)]
  by_cases z : 0 < Y
  · rw [if_pos z, decide_eq_true z]; rfl
  · rw [if_neg z, decide_eq_false z]; rfl
/-- carried, and how much has to turn -/
def wtV (over : Int) : Int := if 0 < over then over else 1 - over
theorem P_fewest_eq (ht : isT t) (hT : Town t b C R) {r w : Nat} (hr : r < nR R b) (hw : w < 2 ^ nF R b) (hwb : isB R w = true) {over : Int} (ho : -8 ≤ over ∧ over ≤ 8) : Z (P_fewestTurning t (r : Int) (w : Int) over C) (fun q => q.1 = tst R b (vgN R b r w (decide (0 < over))) (wtV over) (2 ^ nT R b) ∧ ∀ c k, c ≠ 76 → c ≠ 77 → q.2 c k = C c k) := by
  have hTn := num_T hT.1
  have hP := num_P hT.1
  have hR := num_R hT.1
  have ht2 : t ≤ 15 := by unfold isT at ht; omega
  have hp0 := Nat.two_pow_pos (nT R b)
  have hwt : 1 ≤ wtV over ∧ wtV over ≤ 9 := by unfold wtV; split <;> omega
  unfold P_fewestTurning
  have ev : (if 0 < n32 over then some (1 : Int) else some 0) = some (b1 (decide (0 < over))) := by
    rw [n32_of (by omega) (by omega)]
    by_cases q : 0 < over
    · rw [if_pos q, decide_eq_true q]; rfl
    · rw [if_neg q, decide_eq_false q]; rfl
  have ew : (if ¬ n32 (b1 (decide (0 < over))) = 0 then some over else some (1 - over)) = some (wtV over) := by
    unfold wtV
    by_cases q : 0 < over
    · rw [decide_eq_true q, if_pos (by decide), if_pos q]
    · rw [decide_eq_false q, if_neg (by decide), if_neg q]
  rw [lt1_eq, ev, bind_some', ew, bind_some', lt1_eq, lt1_eq, Z_bind_iff]
  refine it_Z (fun i st => st.1 = (i : Int) ∧ (st.2 76 0 = (t : Int) ∧ st.2 76 4 = wtV over ∧ st.2 76 5 = 13) ∧ (∀ j, j < i → st.2 77 j = vgN R b r w (decide (0 < over)) j) ∧ ∀ c k, c ≠ 76 → c ≠ 77 → st.2 c k = C c k) (nT R b) (by unfold FUEL; omega) ⟨rfl, ⟨rfl, rfl, rfl⟩, fun j hj => by omega, fun c k q1 q2 => by dsimp only; rw [up_c q1, up_c q1, up_c q1]⟩ ?_ ?_
  · rintro i ⟨l, M⟩ hi ⟨el, ⟨g0, g4, g5⟩, g1, gf⟩
    dsimp only at el g0 g4 g5 g1 gf
    subst el
    obtain ⟨⟨k1, k2, -⟩, ⟨k3, k4⟩, ⟨k5, k6⟩, -⟩ := hT.2.2.2.1.1 i hi
    have hTM : Town t b M R := Town_tw (fun c z q1 q2 => gf c z (by omega) (by omega)) hT
    unfold P_fewestTurning_b44
    dsimp only
    rw [g0, chk_pos (isTI_of rfl ht), lt1_eq, tn_nat, gf t 3 (by omega) (by omega), hTn.2.1, n32_nat (by omega), n32_nat (by omega), if_pos (by omega), chk_pos (by omega), tn_nat, gf (t + 4) _ (by omega) (by omega), gf (t + 5) _ (by omega) (by omega), k1, k2, show R 98 (12 * b + i) = (tOne R b i : Int) from by unfold tOne; omega, show R 99 (12 * b + i) = (tTwo R b i : Int) from by unfold tTwo; omega, P_voice_eq ht hTM g0 k4 hr hw hwb, bind_some', P_voice_eq ht hTM g0 k6 hr hw hwb, bind_some', lt1_eq]
    have eg : (if ¬ n32 (b1 (decide (0 < over))) = 0 then some (2 + (vcV R (tOne R b i) r w + vcV R (tTwo R b i) r w)) else some (2 - (vcV R (tOne R b i) r w + vcV R (tTwo R b i) r w))) = some (vgN R b r w (decide (0 < over)) i) := by
      unfold vgN
      cases decide (0 < over)
      · rw [if_neg (by decide)]; rfl
      · rw [if_pos (by decide)]; rfl
    rw [eg, bind_some', lt1_eq, lt1_eq]
    refine Z_of (Or.inl ⟨_, rfl, rfl, ⟨?_, ?_, ?_⟩, fun j hj => ?_, fun c k q1 q2 => ?_⟩)
    · dsimp only; rw [up_c (by decide)]; exact g0
    · dsimp only; rw [up_c (by decide)]; exact g4
    · dsimp only; rw [up_c (by decide)]; exact g5
    · dsimp only
      by_cases e : j = i
      · subst e; rw [up_eq]
      · rw [up_k e]; exact g1 j (by omega)
    · dsimp only; rw [up_c q2]; exact gf c k q1 q2
  · rintro ⟨l, M⟩ ⟨el, ⟨g0, g4, g5⟩, g1, gf⟩
    dsimp only at el g0 g4 g5 g1 gf
    subst el
    unfold P_fewestTurning_b44
    dsimp only
    rw [g0, chk_pos (isTI_of rfl ht), lt1_eq, tn_nat, gf t 3 (by omega) (by omega), hTn.2.1, if_neg (by omega)]
    refine Z_of ⟨_, rfl, ?_⟩
    have ha0 : apB R b 0 = true := by
      unfold apB
      rw [allB_iff]
      intro i _
      rw [Nat.zero_testBit]
      rfl
    obtain ⟨M', em, s1, s2, s4, s5⟩ := seekF_eq ht hT r w (decide (0 < over)) hwt 14 0 0 M (by omega) (by omega) (by decide) ha0 ⟨g0, g4, g1, gf⟩ (by rw [g5]; decide)
    rw [show P_seekFewest 14 0 0 0 0 M = some M' from em, bind_some']
    rw [g5] at s2 s5
    have T1 := tst_spec (R := R) (b := b) (vgN R b r w (decide (0 < over))) (wtV over) (2 ^ nT R b)
    rw [n32_of (a := M' 76 5) (by omega) (by omega)]
    rcases T1 with ⟨i1, i2⟩ | ⟨T, i1, i2, i3, i4, i5⟩
    · rcases s5 with z | ⟨T, z1, z2, z3, z4⟩
      · rw [if_pos (by omega)]
        exact Z_of ⟨i1.symm, s1.2.2.2⟩
      · exact absurd z3 (i2 T z1 z2)
    · have h1 := s4 T i1 i2 i3 (Nat.mod_one _)
      have h2 := popc_n i1 (by omega)
      rw [if_neg (by omega)]
      refine Z_of ⟨?_, s1.2.2.2⟩
      dsimp only
      rw [i4]
      rcases s5 with z | ⟨S, z1, z2, z3, z4⟩
      · omega
      · have := i5 S z1 z2 z3
        omega
theorem M_turned_eq (hb : b < 2) (h38 : R 81 38 = (b : Int)) (hT : Town t b C R) {r w : Nat} (hr : r < nR R b) (hw : w < 2 ^ nF R b) (hwb : isB R w = true) {over : Int} (ho : -8 ≤ over ∧ over ≤ 8) : M_turned (r : Int) (w : Int) over R = some (tst R b (vgN R b r w (decide (0 < over))) (wtV over) (2 ^ nT R b)) := by
  have hTn := num_T hT.1
  have hP := num_P hT.1
  have hR := num_R hT.1
  have hF := num_F hT.1
  have h6 := two_pow8 hF.2.2
  have hp2 : 2 ^ nT R b ≤ 4096 := Nat.le_trans (Nat.pow_le_pow_right (by omega) hTn.2.2) (by decide)
  have hp0 := Nat.two_pow_pos (nT R b)
  have hwt : 1 ≤ wtV over ∧ wtV over ≤ 9 := by unfold wtV; split <;> omega
  unfold M_turned
  have ev : (if n32 over ≤ 0 then some (1 : Int) else some 0) = some (b1 (!decide (0 < over))) := by
    rw [n32_of (by omega) (by omega)]
    by_cases q : 0 < over
    · rw [if_neg (by omega), decide_eq_true q]; rfl
    · rw [if_pos (by omega), decide_eq_false q]; rfl
  rw [ev, bind_some']
  have L : it (M_turned_b17 (r : Int) (w : Int) over R (b1 (!decide (0 < over)))) FUEL ((-1), 1) = some (tst R b (vgN R b r w (decide (0 < over))) (wtV over) (2 ^ nT R b)) := by
    refine it_for (fun i => (tst R b (vgN R b r w (decide (0 < over))) (wtV over) (i + 1), ((i + 1 : Nat) : Int))) (2 ^ nT R b - 1) (by unfold FUEL; omega) ?_ ?_ ?_
    · have e : tst R b (vgN R b r w (decide (0 < over))) (wtV over) 1 = -1 := by
        show (if _ then _ else _) = _
        rw [if_neg]
        · rfl
        · rintro ⟨-, -, z⟩
          rw [sumG_stop (m := 0) (by omega) (fun i _ _ => Nat.zero_testBit i)] at z
          have : wtV over ≤ 0 := z
          omega
      rw [e]; rfl
    · intro i hi
      have hnx : tst R b (vgN R b r w (decide (0 < over))) (wtV over) (i + 1 + 1) = if (tst R b (vgN R b r w (decide (0 < over))) (wtV over) (i + 1) < 0 ∨ (popc (i + 1) : Int) < tst R b (vgN R b r w (decide (0 < over))) (wtV over) (i + 1)) ∧ apB R b (i + 1) = true ∧ wtV over ≤ sumG (vgN R b r w (decide (0 < over))) (i + 1) (nT R b) then (popc (i + 1) : Int) else tst R b (vgN R b r w (decide (0 < over))) (wtV over) (i + 1) := rfl
      have hrng : -1 ≤ tst R b (vgN R b r w (decide (0 < over))) (wtV over) (i + 1) ∧ tst R b (vgN R b r w (decide (0 < over))) (wtV over) (i + 1) ≤ 31 := by
        rcases tst_spec (R := R) (b := b) (vgN R b r w (decide (0 < over))) (wtV over) (i + 1) with ⟨z, -⟩ | ⟨T, -, -, -, z, -⟩
        · rw [z]; decide
        · rw [z]; have := popc_le T; omega
      have hsr := vsum_rng (R := R) (b := b) r w (decide (0 < over)) (i + 1) (nT R b)
      unfold M_turned_b17
      dsimp only
      rw [h38, chk_pos (by omega), tn_nat, hTn.1, ishl_1 (by omega), n32_nat (a := i + 1) (by omega), n32_nat (by omega), if_pos (by omega), popc_eq_s (by omega), M_areApart_eq hb h38 hT.1 hT.2.2.2.1 (by omega)]
      generalize hbst : tst R b (vgN R b r w (decide (0 < over))) (wtV over) (i + 1) = best at *
      have hp := popc_le (i + 1)
      have ec : (if 0 ≤ n32 best then (some ((popc (i + 1) : Nat) : Int)).bind fun r_26 => if n32 r_26 < n32 best then some true else some false else some true) = some (decide (best < 0 ∨ (popc (i + 1) : Int) < best)) := by
        rw [n32_of (a := best) (by omega) (by omega)]
        by_cases q : 0 ≤ best
        · rw [if_pos q, bind_some', n32_nat (by omega)]
          by_cases q2 : (popc (i + 1) : Int) < best
          · rw [if_pos q2, decide_eq_true (Or.inr q2)]
          · rw [if_neg q2, decide_eq_false (by omega)]
        · rw [if_neg q, decide_eq_true (Or.inl (by omega))]
      rw [ec, bind_some', hnx]
      by_cases q : best < 0 ∨ (popc (i + 1) : Int) < best
      · rw [decide_eq_true q, if_pos rfl, bind_some']
        cases hap : apB R b (i + 1) with
        | false =>
          rw [if_pos (show n32 (b1 false) = 0 by decide), if_neg (show ¬ ((best < 0 ∨ (popc (i + 1) : Int) < best) ∧ false = true ∧ wtV over ≤ sumG (vgN R b r w (decide (0 < over))) (i + 1) (nT R b)) from fun z => absurd z.2.1 (by decide))]
          rfl
        | true =>
          have L2 : it (M_turned_b66 (r : Int) (w : Int) R (b1 (!decide (0 < over))) ((i + 1 : Nat) : Int)) FUEL (over, 0) = some (if 0 < over then over - sumG (vgN R b r w (decide (0 < over))) (i + 1) (nT R b) else over + sumG (vgN R b r w (decide (0 < over))) (i + 1) (nT R b)) := by
            refine it_for (fun n => ((if 0 < over then over - sumG (vgN R b r w (decide (0 < over))) (i + 1) n else over + sumG (vgN R b r w (decide (0 < over))) (i + 1) n), (n : Int))) (nT R b) (by unfold FUEL; omega) (by show ((if 0 < over then over - 0 else over + 0), (0 : Int)) = _; split <;> simp) ?_ ?_
            · intro n hn
              obtain ⟨-, ⟨k3, k4⟩, ⟨k5, k6⟩, -⟩ := hT.2.2.2.1.1 n hn
              have es : sumG (vgN R b r w (decide (0 < over))) (i + 1) (n + 1) = sumG (vgN R b r w (decide (0 < over))) (i + 1) n + (if (i + 1).testBit n then vgN R b r w (decide (0 < over)) n else 0) := rfl
              unfold M_turned_b66
              dsimp only
              rw [h38, tn_nat, hTn.1, n32_nat (by omega), n32_nat (by omega), if_pos (by omega), hb_eq (by omega) (by omega), es]
              cases (i + 1).testBit n with
              | false =>
                rw [if_neg (show ¬ (false = true) by decide), if_neg (by decide), if_neg (show ¬ (false = true) by decide), Int.add_zero, bind_some', lt1_eq]
                rfl
              | true =>
                have ht1 : ∀ p, p < nP R b → ∃ x, M_answerAt (p : Int) (r : Int) (w : Int) R = some x ∧ M_turns x (b1 (!decide (0 < over))) R = some ((if 0 < over then -1 else 1) - vcV R p r w) := by
                  intro p hp2
                  refine ⟨_, M_answerAt_eq (by omega) (by omega) (by omega), ?_⟩
                  have hA := (hT.2.2.2.2.2.2.2.1 p r w hp2 hr (by have := (pow_wd hF.2.2).1; omega)).1 hwb
                  unfold M_turns vcV
                  by_cases z : 0 < over
                  · rw [decide_eq_true z, if_pos z]
                    rcases hA with e | e | e <;> rw [e] <;> rfl
                  · rw [decide_eq_false z, if_neg z]
                    rcases hA with e | e | e <;> rw [e] <;> rfl
                obtain ⟨x1, a1, a2⟩ := ht1 _ k4
                obtain ⟨x2, a3, a4⟩ := ht1 _ k6
                rw [if_pos rfl, if_pos (by decide), if_pos rfl, chk_pos (by omega), tn_12, show R 98 (12 * b + n) = (tOne R b n : Int) from by unfold tOne; omega, show R 99 (12 * b + n) = (tTwo R b n : Int) from by unfold tTwo; omega, a1, bind_some', a2, bind_some', a3, bind_some', a4, bind_some', lt1_eq, bind_some', lt1_eq]
                have eg : vgN R b r w (decide (0 < over)) n = if 0 < over then 2 + (vcV R (tOne R b n) r w + vcV R (tTwo R b n) r w) else 2 - (vcV R (tOne R b n) r w + vcV R (tTwo R b n) r w) := by
                  unfold vgN
                  by_cases z : 0 < over
                  · rw [if_pos (decide_eq_true z), if_pos z]
                  · rw [if_neg (by simpa using z), if_neg z]
                rw [eg]
                by_cases z : 0 < over
                · simp only [if_pos z]
                  refine congrArg some (congrArg Sum.inl (Prod.ext ?_ rfl))
                  dsimp only
                  omega
                · simp only [if_neg z]
                  refine congrArg some (congrArg Sum.inl (Prod.ext ?_ rfl))
                  dsimp only
                  omega
            · unfold M_turned_b66
              dsimp only
              rw [h38, tn_nat, hTn.1, if_neg (by omega)]
          rw [if_neg (by decide), L2, bind_some']
          have ex : (if 0 < n32 (if 0 < over then over - sumG (vgN R b r w (decide (0 < over))) (i + 1) (nT R b) else over + sumG (vgN R b r w (decide (0 < over))) (i + 1) (nT R b)) then some (1 : Int) else some 0) = some (b1 (decide (0 < (if 0 < over then over - sumG (vgN R b r w (decide (0 < over))) (i + 1) (nT R b) else over + sumG (vgN R b r w (decide (0 < over))) (i + 1) (nT R b))))) := by
            exact ex_pos (by split <;> omega)
          rw [ex, bind_some', b1_n, b1_n]
          have hiff : (b1 (decide (0 < (if 0 < over then over - sumG (vgN R b r w (decide (0 < over))) (i + 1) (nT R b) else over + sumG (vgN R b r w (decide (0 < over))) (i + 1) (nT R b)))) = b1 (!decide (0 < over))) ↔ wtV over ≤ sumG (vgN R b r w (decide (0 < over))) (i + 1) (nT R b) := by
            generalize sumG (vgN R b r w (decide (0 < over))) (i + 1) (nT R b) = S
            unfold wtV
            by_cases z : 0 < over
            · simp only [if_pos z, decide_eq_true z]
              by_cases y : 0 < over - S
              · rw [decide_eq_true y]
                exact ⟨fun e => absurd e (by decide), fun e => by omega⟩
              · rw [decide_eq_false y]
                exact ⟨fun _ => by omega, fun _ => rfl⟩
            · simp only [if_neg z, decide_eq_false z]
              by_cases y : 0 < over + S
              · rw [decide_eq_true y]
                exact ⟨fun _ => by omega, fun _ => rfl⟩
              · rw [decide_eq_false y]
                exact ⟨fun e => absurd e (by decide), fun e => by omega⟩
          by_cases z : wtV over ≤ sumG (vgN R b r w (decide (0 < over))) (i + 1) (nT R b)
          · rw [if_pos (hiff.mpr z), if_pos ⟨q, rfl, z⟩]
            rfl
          · rw [if_neg (fun y => z (hiff.mp y)), if_neg (fun y => z y.2.2)]
            rfl
      · rw [decide_eq_false q, if_neg (show ¬ (false = true) by decide), if_neg (fun z => q z.1)]
        rfl
    · unfold M_turned_b17
      dsimp only
      rw [h38, chk_pos (by omega), tn_nat, hTn.1, ishl_1 (by omega), n32_nat (by omega), n32_nat (by omega), if_neg (by omega), show 2 ^ nT R b - 1 + 1 = 2 ^ nT R b from by omega]
  rw [L]; rfl
end VOTE
theorem op_vote {C R : Mem} (h : Inv C R) {r w x : Int} (hr : n32 r = r) (hw : n32 w = w) (hx : n32 x = x) : ∃ v C', X_vote r w x C = some (v, C') ∧ M_vote r w x R = some v ∧ Inv C' R := by
  have h0 := h
  obtain ⟨t, b, ht, h12, h13, hb, h38, -, -, -, -, hT, -, -⟩ := h
  have hF := num_F hT.1
  have hP := num_P hT.1
  unfold X_vote M_vote
  rw [h12, chk_pos (isTI_of rfl ht), lt1_eq, tn_nat, hx, M_isRow_eq hb h38 hT.1 hr, bind_some', M_isIn_eq _ _ _ _ hx rfl rfl, bind_some']
  rcases T_canBe_eq ht hT.1 hT.2.2.2.2.2.1 hr hw with ⟨k, e⟩ | ⟨k, e⟩
  · rw [e, bind_some', if_pos k.1, if_pos nz1]
    rcases M_isWorld_eq hb h38 hT.1 hT.2.2.2.2.2.1 hw with ⟨q2, e2⟩ | ⟨q2, e2⟩
    · rw [e2, bind_some', if_pos nz1]
      by_cases z : 0 ≤ x ∧ x ≤ 3
      · rw [if_pos z, if_neg nz1, bind_some', if_neg (show ¬ (false = true) by decide), if_neg (by rintro (y | y | y); exact nz1 y; omega; omega)]
        obtain ⟨⟨k3, k4⟩, k5, k6, k7⟩ := k
        obtain ⟨r, rfl⟩ : ∃ q : Nat, r = (q : Int) := ⟨r.toNat, by omega⟩
        obtain ⟨w, rfl⟩ : ∃ q : Nat, w = (q : Int) := ⟨w.toNat, by omega⟩
        change isB R w = true at k7
        have c1 := cnt_le (fun p => decide (ansV R p r w = 1)) (nP R b)
        have c0 := cnt_le (fun p => decide (ansV R p r w = 0)) (nP R b)
        rw [T_count_eq ht hT (by omega) (by omega) k7 n32_1, bind_some', T_count_eq ht hT (by omega) (by omega) k7 n32_0, bind_some', M_count_eq hb h38 hT (by omega) (by omega) k7, bind_some']
        dsimp only
        rw [n32_nat (a := cnt (fun p => decide (ansV R p r w = 1)) (nP R b)) (by omega), n32_nat (a := cnt (fun p => decide (ansV R p r w = 0)) (nP R b)) (by omega)]
        by_cases y0 : x = 0
        · simp only [if_pos y0]
          exact ⟨_, _, rfl, rfl, h0⟩
        · simp only [if_neg y0]
          by_cases y1 : x = 1
          · simp only [if_pos y1]
            exact ⟨_, _, rfl, rfl, h0⟩
          · simp only [if_neg y1]
            by_cases y2 : x = 2
            · simp only [if_pos y2]
              split
              · exact ⟨_, _, rfl, rfl, h0⟩
              · exact ⟨_, _, rfl, rfl, h0⟩
            · simp only [if_neg y2]
              obtain ⟨⟨v, C'⟩, e3, g1, g2⟩ := P_fewest_eq ht hT (r := r) (w := w) (by omega) (by omega) k7 (over := ((cnt (fun p => decide (ansV R p r w = 1)) (nP R b) : Nat) : Int) - ((cnt (fun p => decide (ansV R p r w = 0)) (nP R b) : Nat) : Int)) (by omega)
              dsimp only at g1 g2
              rw [e3, bind_some', M_turned_eq hb h38 hT (r := r) (w := w) (by omega) (by omega) k7 (over := ((cnt (fun p => decide (ansV R p r w = 1)) (nP R b) : Nat) : Int) - ((cnt (fun p => decide (ansV R p r w = 0)) (nP R b) : Nat) : Int)) (by omega), ← g1]
              exact ⟨_, _, rfl, rfl, Inv_q (fun c k hc => g2 c k (by omega) (by omega)) (fun _ _ _ => rfl) h0⟩
      · rw [if_neg z, if_pos (show n32 0 = 0 by decide), bind_some', if_pos rfl, if_pos (Or.inr (by omega))]
        exact ⟨_, _, rfl, rfl, h0⟩
    · exact absurd k.2 q2
  · rw [e, bind_some', if_pos (Or.inl (show n32 0 = 0 by decide))]
    by_cases q : 0 ≤ r ∧ r < (nR R b : Int)
    · rw [if_pos q, if_pos nz1]
      rcases M_isWorld_eq hb h38 hT.1 hT.2.2.2.2.2.1 hw with ⟨q2, e2⟩ | ⟨q2, e2⟩
      · exact absurd ⟨q, q2⟩ k
      · rw [e2]; exact ⟨_, _, rfl, rfl, h0⟩
    · rw [if_neg q]; exact ⟨_, _, rfl, rfl, h0⟩
