/-! ===== what each answers: the class's sets ===== -/
section ANSC
variable {t F : Nat} {C : Mem} {kn : Nat → Nat}
def WmB (t F m n : Nat) (kn : Nat → Nat) (C : Mem) : Prop := WmC t F C ∧ (C t 1 = (m : Int) ∧ m ≤ 8) ∧ (C t 2 = (n : Int) ∧ n ≤ 12) ∧ (∀ w, 2 ^ F ≤ w → w < 64 * nwd F → sb C (t + 8) 0 w = false) ∧ ∀ p, p < m → C (t + 2) p = (kn p : Int) ∧ kn p < 256
theorem WmB_keep {m n : Nat} {C1 : Mem} (h : WmB t F m n kn C) (hc : ∀ a k, a ≠ t + 10 → a ≠ t + 11 → C1 a k = C a k) : WmB t F m n kn C1 := by
  obtain ⟨⟨h1, h2, h3, h4⟩, ⟨h5, h6⟩, ⟨h7, h8⟩, h9, h10⟩ := h
  exact ⟨⟨h1, by rw [hc _ _ (by omega) (by omega)]; exact h2, by rw [hc _ _ (by omega) (by omega)]; exact h3, h4⟩, ⟨by rw [hc _ _ (by omega) (by omega)]; exact h5, h6⟩, ⟨by rw [hc _ _ (by omega) (by omega)]; exact h7, h8⟩, fun w q1 q2 => by rw [← h9 w q1 q2]; exact sb_eq (hc _ _ (by omega) (by omega)), fun p hp => by rw [hc _ _ (by omega) (by omega)]; exact h10 p hp⟩
def AnsE (t F : Nat) (kn : Nat → Nat) (C C1 : Mem) (p r : Nat) : Prop := ∀ w, w < 64 * nwd F → sb C1 (t + 10) (4 * (12 * p + r)) w = hldB (sb C (t + 8) 0) (sb C (t + 9) (4 * r)) (kn p) F w ∧ sb C1 (t + 11) (4 * (12 * p + r)) w = (!widB (sb C (t + 8) 0) (sb C (t + 9) (4 * r)) (kn p) F w && sb C (t + 8) 0 w)
theorem widB_congr {B B' S S' : Nat → Bool} {k F w : Nat} (hB : ∀ v, v < 2 ^ F → B' v = B v) (hS : ∀ v, v < 2 ^ F → B v = true → S' v = S v) (hw : B' w = B w) : widB B' S' k F w = widB B S k F w := by
  unfold widB
  rw [hw]
  congr 1
  refine anyB_congr (fun v hv => ?_)
  rw [hB v hv]
  cases hb : B v with
  | false => rfl
  | true => rw [hS v hv hb]
theorem hldB_congr {B B' S S' : Nat → Bool} {k F w : Nat} (hB : ∀ v, v < 2 ^ F → B' v = B v) (hS : ∀ v, v < 2 ^ F → B v = true → S' v = S v) (hw : B' w = B w) : hldB B' S' k F w = hldB B S k F w := by
  unfold hldB
  rw [hw]
  congr 1
  refine allB_congr (fun v hv => ?_)
  rw [hB v hv]
  cases hb : B v with
  | false => rfl
  | true => rw [hS v hv hb]
theorem ansC_1 {m n : Nat} (h : WmB t F m n kn C) {C1 : Mem} (hc : ∀ a k, a ≠ t + 10 → a ≠ t + 11 → C1 a k = C a k) {p r : Nat} (hp : p < m) (hr : r < n) : Z (T_fillAnswers_b12 t (p : Int) ((r : Int), C1)) (fun x => ∃ C2, x = .inl ((r : Int) + 1, C2) ∧ (∀ a k, ¬ ((a = t + 10 ∨ a = t + 11) ∧ 4 * (12 * p + r) ≤ k ∧ k < 4 * (12 * p + r) + 4) → C2 a k = C1 a k) ∧ AnsE t F kn C C2 p r) := by
  have hk := WmB_keep h hc
  obtain ⟨hwc, ⟨q1, q2⟩, ⟨q3, q4⟩, q5, q6⟩ := hk
  have ht := hwc.1
  have ht2 : t ≤ 15 := by unfold isT at ht; omega
  have hF := hwc.2.2.2
  have hw4 := pow_wd hF
  have aj := aJ1 ht
  obtain ⟨kp1, kp2⟩ := q6 p hp
  have e8 : ∀ w, sb C1 (t + 8) 0 w = sb C (t + 8) 0 w := fun w => sb_eq (hc _ _ (by omega) (by omega))
  have e9 : ∀ o w, sb C1 (t + 9) o w = sb C (t + 9) o w := fun o w => sb_eq (hc _ _ (by omega) (by omega))
  unfold T_fillAnswers_b12 T_place
  dsimp only
  rw [q3, n32_nat (by omega), n32_nat (by omega), if_pos (by omega), bind_some', show ((p : Int) * 12 + (r : Int)) * 4 = ((4 * (12 * p + r) : Nat) : Int) by omega, hwc.2.2.1, chk_pos (by omega), lt1_eq, cpy_wup, show Int.toNat ((r : Int) * 4) = 4 * r by omega, tn_nat, tn_nat]
  generalize hM2 : wup C1 (t + 10) (4 * (12 * p + r)) (nwd F) (fun i => C1 (t + 9) (4 * r + i)) = M2
  have o2 : onlyW (t + 10) (4 * (12 * p + r)) (nwd F) C1 M2 := by rw [← hM2]; exact onlyW_wup
  have s2 : ∀ w, w < 64 * nwd F → sb M2 (t + 10) (4 * (12 * p + r)) w = sb C (t + 9) (4 * r) w := fun w hw => by
    rw [← hM2, sb_wup hw, ← e9]
    rfl
  clear hM2
  have e82 : ∀ w, sb M2 (t + 8) 0 w = sb C (t + 8) 0 w := fun w => (sb_eq (onlyW_c o2 (by omega))).trans (e8 w)
  rw [Z_bind_iff]
  refine Z_mono (T_keepHeld_eq (M := M2) (c := t + 10) (o := 4 * (12 * p + r)) (L := 384) ht (by omega) (by omega) (by omega) (by rw [onlyW_c o2 (by omega)]; exact hwc.2.1) (by rw [onlyW_c o2 (by omega)]; exact hwc.2.2.1) hF aj.2.2.1 (by omega) (by omega) (p := p) (kn := kn p) (by omega) kp2 (by rw [onlyW_c o2 (by omega)]; exact kp1) (fun w z1 z2 => by rw [e82, ← e8]; exact q5 w z1 z2)) ?_
  rintro M3 ⟨o3, s3⟩
  have o3' := onlyW_trans o2 o3
  rw [onlyW_c o3' (show t ≠ t + 10 by omega), hwc.2.2.1, chk_pos (by omega), lt1_eq, cpy_wup, tn_nat, Z_bind_iff]
  generalize hM4 : wup M3 (t + 11) (4 * (12 * p + r)) (nwd F) (fun i => M3 (t + 9) (4 * r + i)) = M4
  have o4 : onlyW (t + 11) (4 * (12 * p + r)) (nwd F) M3 M4 := by rw [← hM4]; exact onlyW_wup
  have s4 : ∀ w, w < 64 * nwd F → sb M4 (t + 11) (4 * (12 * p + r)) w = sb C (t + 9) (4 * r) w := fun w hw => by
    rw [← hM4, sb_wup hw, ← e9]
    unfold sb
    rw [onlyW_c o3' (by omega)]
  clear hM4
  have e84 : ∀ w, sb M4 (t + 8) 0 w = sb C (t + 8) 0 w := fun w => ((sb_eq (onlyW_c o4 (by omega))).trans (sb_eq (onlyW_c o3' (by omega)))).trans (e8 w)
  have c4 : ∀ a k, a ≠ t + 10 → a ≠ t + 11 → M4 a k = C1 a k := fun a k z1 z2 => (onlyW_c o4 z2).trans (onlyW_c o3' z1)
  refine Z_mono (T_widen_eq (M := M4) (c := t + 11) (o := 4 * (12 * p + r)) (L := 384) ht (by omega) (by omega) (by omega) (by rw [c4 _ _ (by omega) (by omega)]; exact hwc.2.1) (by rw [c4 _ _ (by omega) (by omega)]; exact hwc.2.2.1) hF aj.2.2.2 (by omega) (by omega) (p := p) (kn := kn p) (by omega) kp2 (by rw [c4 _ _ (by omega) (by omega)]; exact kp1) (fun w z1 z2 => by rw [e84, ← e8]; exact q5 w z1 z2)) ?_
  rintro M5 ⟨o5, s5⟩
  rw [Z_bind_iff]
  refine Z_mono (T_flip_eq (M := M5) (c := t + 11) (o := 4 * (12 * p + r)) (L := 384) ht (by omega) (by omega) (by rw [onlyW_c o5 (by omega), c4 _ _ (by omega) (by omega)]; exact hwc.2.2.1) hF aj.2.2.2 (by omega) (by omega)) ?_
  rintro M6 ⟨o6, s6⟩
  rw [lt1_eq]
  refine Z_of ⟨M6, rfl, fun a k z => ?_, fun w hw => ⟨?_, ?_⟩⟩
  · rw [o6 a k (by omega), o5 a k (by omega), o4 a k (by omega), o3' a k (by omega)]
  · have e10 : sb M6 (t + 10) (4 * (12 * p + r)) w = sb M3 (t + 10) (4 * (12 * p + r)) w := ((sb_eq (onlyW_c o6 (by omega))).trans (sb_eq (onlyW_c o5 (by omega)))).trans (sb_eq (onlyW_c o4 (by omega)))
    rw [e10, s3 w hw]
    exact hldB_congr (fun v _ => e82 v) (fun v hv _ => s2 v (by omega)) (e82 w)
  · rw [s6 w hw, s5 w hw, sb_eq (M' := M5) (M := M4) (c := t + 8) (o := 0) (w := w) (onlyW_c o5 (by omega)), e84]
    congr 2
    exact widB_congr (fun v _ => e84 v) (fun v hv _ => s4 v (by omega)) (e84 w)
theorem AnsE_keep {C1 C2 : Mem} {p r : Nat} (h : AnsE t F kn C C1 p r) (hF : F ≤ 8) (h1 : ∀ k, 4 * (12 * p + r) ≤ k → k < 4 * (12 * p + r) + 4 → C2 (t + 10) k = C1 (t + 10) k ∧ C2 (t + 11) k = C1 (t + 11) k) : AnsE t F kn C C2 p r := by
  have hw4 := pow_wd hF
  intro w hw
  have := h w hw
  rw [sb_eq (M' := C2) (M := C1) (h1 _ (by omega) (by omega)).1, sb_eq (M' := C2) (M := C1) (h1 _ (by omega) (by omega)).2]
  exact this
theorem ansC_p {m n : Nat} (h : WmB t F m n kn C) : Z (T_fillAnswers t C) (fun C2 => (∀ a k, a ≠ t + 10 → a ≠ t + 11 → C2 a k = C a k) ∧ ∀ p r, p < m → r < n → AnsE t F kn C C2 p r) := by
  have hF := h.1.2.2.2
  have hm := h.2.1.2
  have hn := h.2.2.1.2
  unfold T_fillAnswers
  rw [Z_bind_iff]
  refine Z_mono (it_Z (J := fun C2 => (∀ a k, a ≠ t + 10 → a ≠ t + 11 → C2 a k = C a k) ∧ ∀ p r, p < m → r < n → AnsE t F kn C C2 p r) (fun i st => st.1 = (i : Int) ∧ (∀ a k, a ≠ t + 10 → a ≠ t + 11 → st.2 a k = C a k) ∧ ∀ p r, p < i → r < n → AnsE t F kn C st.2 p r) m (by unfold FUEL; omega) ⟨rfl, fun _ _ _ _ => rfl, fun p r hp => by omega⟩ ?_ ?_) (fun C2 h => Z_of h)
  · rintro i ⟨l, M⟩ hi ⟨el, f, g⟩
    dsimp only at el f g
    subst el
    have hk := WmB_keep h f
    unfold T_fillAnswers_b2
    dsimp only
    rw [hk.2.1.1, n32_nat (by omega), n32_nat (by omega), if_pos (by omega), Z_bind_iff]
    have inner : Z (it (T_fillAnswers_b12 t (i : Int)) FUEL (0, M)) (fun C2 => (∀ a k, a ≠ t + 10 → a ≠ t + 11 → C2 a k = C a k) ∧ (∀ p r, p < i → r < n → AnsE t F kn C C2 p r) ∧ ∀ r, r < n → AnsE t F kn C C2 i r) := by
      refine it_Z (fun j st => st.1 = (j : Int) ∧ (∀ a k, a ≠ t + 10 → a ≠ t + 11 → st.2 a k = C a k) ∧ (∀ p r, p < i → r < n → AnsE t F kn C st.2 p r) ∧ ∀ r, r < j → AnsE t F kn C st.2 i r) n (by unfold FUEL; omega) ⟨rfl, f, g, fun r hr => by omega⟩ ?_ ?_
      · rintro j ⟨l, M1⟩ hj ⟨el, f1, g1, g2⟩
        dsimp only at el f1 g1 g2
        subst el
        refine Z_mono (ansC_1 h f1 hi hj) ?_
        rintro x ⟨C2, rfl, f3, g3⟩
        refine Or.inl ⟨_, rfl, rfl, fun a k z1 z2 => (f3 a k (by omega)).trans (f1 a k z1 z2), fun p r hp hr => ?_, fun r hr => ?_⟩
        · exact AnsE_keep (g1 p r hp hr) hF (fun k z1 z2 => ⟨f3 _ k (by omega), f3 _ k (by omega)⟩)
        · by_cases e : r = j
          · subst e; exact g3
          · exact AnsE_keep (g2 r (by omega)) hF (fun k z1 z2 => ⟨f3 _ k (by omega), f3 _ k (by omega)⟩)
      · rintro ⟨l, M1⟩ ⟨el, f1, g1, g2⟩
        dsimp only at el f1 g1 g2
        subst el
        have hk1 := WmB_keep h f1
        unfold T_fillAnswers_b12
        dsimp only
        rw [hk1.2.2.1.1, if_neg (by omega)]
        exact Z_of ⟨_, rfl, f1, g1, g2⟩
    refine Z_mono inner ?_
    rintro M2 ⟨f2, g1, g2⟩
    rw [lt1_eq]
    refine Z_of (Or.inl ⟨_, rfl, rfl, f2, fun p r hp hr => ?_⟩)
    dsimp only
    by_cases e : p = i
    · subst e; exact g2 r hr
    · exact g1 p r (by omega) hr
  · rintro ⟨l, M⟩ ⟨el, f, g⟩
    dsimp only at el f g
    subst el
    have hk := WmB_keep h f
    unfold T_fillAnswers_b2
    dsimp only
    rw [hk.2.1.1, if_neg (by omega)]
    exact Z_of ⟨_, rfl, f, g⟩
end ANSC
