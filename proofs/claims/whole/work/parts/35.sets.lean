/-! ===== evaluation, sets of worlds, towns' arrays ===== -/
theorem chk_pos {α : Type} {p : Prop} [Decidable p] {e : Option α} (h : p) : chk p e = e := by unfold chk; rw [if_pos h]
theorem up_at {M : Mem} {c k : Nat} {v : Int} {a b : Nat} : up M c k v a b = if a = c ∧ b = k then v else M a b := rfl
theorem lt1_eq {α β : Type} (a : α) (f : α → β) : lt1 a f = f a := rfl
theorem jn_eq {α β : Type} (k : α → β) (f : (α → β) → β) : jn k f = f k := rfl
theorem bind_some' {α β : Type} (a : α) (f : α → Option β) : (some a).bind f = f a := rfl
theorem bind_ite {α β : Type} {p : Prop} [Decidable p] (a b : Option α) (f : α → Option β) : (if p then a else b).bind f = if p then a.bind f else b.bind f := by split <;> rfl
theorem n10 {p : Prop} [Decidable p] : (n32 (if p then (1 : Int) else 0) = 0) ↔ ¬ p := by
  split
  · exact ⟨fun h => absurd h (by decide), fun h => absurd (by assumption) h⟩
  · exact ⟨fun _ => by assumption, fun _ => by decide⟩
theorem n32_1 : n32 1 = 1 := by decide
theorem n32_0 : n32 0 = 0 := by decide
theorem n32_m1 : n32 (-1) = -1 := by decide
theorem tn_nat (a : Nat) : Int.toNat (a : Int) = a := rfl
theorem tn_add (a b : Nat) : Int.toNat ((a : Int) + (b : Int)) = a + b := by omega
theorem tn_256 (a b : Nat) : Int.toNat (256 * (a : Int) + (b : Int)) = 256 * a + b := by omega
theorem tn_12 (a b : Nat) : Int.toNat (12 * (a : Int) + (b : Int)) = 12 * a + b := by omega
theorem tn_8 (a b : Nat) : Int.toNat (8 * (a : Int) + (b : Int)) = 8 * a + b := by omega
theorem tn_17 (a b : Nat) : Int.toNat (17 * (a : Int) + (b : Int)) = 17 * a + b := by omega
theorem tn_4 (a b : Nat) : Int.toNat ((a : Int) * 4 + (b : Int)) = 4 * a + b := by omega
theorem ineg_lt {a : Int} (h : n32 a = a) : -2147483648 ≤ a ∧ a < 2147483648 := by
  have := n32_rng a
  omega
/-! what holds for one of the first n -/
def anyB (p : Nat → Bool) : Nat → Bool
  | 0 => false
  | n + 1 => anyB p n || p n
theorem anyB_iff {p : Nat → Bool} : ∀ {n : Nat}, anyB p n = true ↔ ∃ i, i < n ∧ p i = true
  | 0 => ⟨fun h => absurd h (by simp [anyB]), fun ⟨i, h, _⟩ => by omega⟩
  | n + 1 => by
    show (anyB p n || p n) = true ↔ _
    rw [Bool.or_eq_true, anyB_iff (n := n)]
    constructor
    · rintro (⟨i, h1, h2⟩ | h)
      · exact ⟨i, by omega, h2⟩
      · exact ⟨n, by omega, h⟩
    · rintro ⟨i, h1, h2⟩
      by_cases e : i = n
      · subst e; exact Or.inr h2
      · exact Or.inl ⟨i, by omega, h2⟩
theorem anyB_no {p : Nat → Bool} {n : Nat} : anyB p n = false ↔ ∀ i, i < n → p i = false := by
  rw [← Bool.not_eq_true, anyB_iff]
  constructor
  · intro h i hi
    cases hp : p i with
    | false => rfl
    | true => exact absurd ⟨i, hi, hp⟩ h
  · rintro h ⟨i, hi, hp⟩
    rw [h i hi] at hp
    cases hp
theorem anyB_congr {p q : Nat → Bool} {n : Nat} (h : ∀ i, i < n → p i = q i) : anyB p n = anyB q n := by
  induction n with
  | zero => rfl
  | succ n ih =>
    show (anyB p n || p n) = (anyB q n || q n)
    rw [ih (fun i hi => h i (by omega)), h n (by omega)]
def allB (p : Nat → Bool) (n : Nat) : Bool := !anyB (fun i => !p i) n
theorem allB_iff {p : Nat → Bool} {n : Nat} : allB p n = true ↔ ∀ i, i < n → p i = true := by
  unfold allB
  rw [Bool.not_eq_true', anyB_no]
  simp only [Bool.not_eq_false']
theorem allB_succ (p : Nat → Bool) (n : Nat) : allB p (n + 1) = (allB p n && p n) := by
  show (!(anyB (fun i => !p i) n || !p n)) = (!anyB (fun i => !p i) n && p n)
  rw [Bool.not_or, Bool.not_not]
theorem allB_congr {p q : Nat → Bool} {n : Nat} (h : ∀ i, i < n → p i = q i) : allB p n = allB q n := by
  unfold allB
  rw [anyB_congr (fun i hi => by rw [h i hi])]
theorem bool_iff {a b : Bool} (h : a = true ↔ b = true) : a = b := by
  cases a <;> cases b <;> simp at h ⊢
/-! a set of worlds in an array of longs -/
def sb (M : Mem) (c o w : Nat) : Bool := qb (M c (o + w / 64)) (w % 64)
theorem ishr6 {w : Nat} (h : w < 256) : ishr (w : Int) 6 = ((w / 64 : Nat) : Int) := by
  have := ishr_nat (a := w) (k := 6) (by omega) (by omega)
  rw [Nat.shiftRight_eq_div_pow] at this
  exact this
theorem iand63 {w : Nat} (h : w < 256) : iand (w : Int) 63 = ((w % 64 : Nat) : Int) := by
  have := iand_nat (a := w) (b := 63) (by omega) (by omega)
  rw [show (63 : Nat) = 2 ^ 6 - 1 from rfl, Nat.and_two_pow_sub_one_eq_mod] at this
  exact this
theorem X_has_eq {c o w L : Nat} (M : Mem) (hL : aJ 80 c = (L : Int)) (hw : w < 256) (h : o + w / 64 < L) : X_has c (o : Int) (w : Int) M = some (if sb M c o w = true then 1 else 0) := by
  unfold X_has
  rw [ishr6 hw, iand63 hw, hL, chk_pos (by omega), tn_add]
  unfold sb
  have hb := bit_test (M c (o + w / 64)) (k := w % 64) (by omega)
  by_cases q : qb (M c (o + w / 64)) (w % 64) = true
  · rw [if_pos q, if_pos (fun e => by rw [hb.mp e] at q; cases q)]
  · rw [if_neg q, if_neg (not_not_intro (hb.mpr (by simpa using q)))]
/-- n longs of cell c from o on -/
def wup (M : Mem) (c o n : Nat) (f : Nat → Int) : Mem := fun c' k => if c' = c ∧ o ≤ k ∧ k < o + n then f (k - o) else M c' k
theorem wup_0 {M : Mem} {c o : Nat} {f : Nat → Int} : wup M c o 0 f = M := by
  funext a b
  unfold wup
  rw [if_neg (by omega)]
theorem wup_s {M : Mem} {c o i : Nat} {f : Nat → Int} {v : Int} (h : v = f i) : up (wup M c o i f) c (o + i) v = wup M c o (i + 1) f := by
  funext a b
  show (if a = c ∧ b = o + i then v else if a = c ∧ o ≤ b ∧ b < o + i then f (b - o) else M a b) = if a = c ∧ o ≤ b ∧ b < o + (i + 1) then f (b - o) else M a b
  by_cases e : a = c ∧ b = o + i
  · rw [if_pos e, if_pos (by omega), h, show b - o = i from by omega]
  · rw [if_neg e]
    by_cases e2 : a = c ∧ o ≤ b ∧ b < o + i
    · rw [if_pos e2, if_pos (by omega)]
    · rw [if_neg e2, if_neg (by omega)]
theorem wup_c {M : Mem} {c o n : Nat} {f : Nat → Int} {c' k : Nat} (h : c' ≠ c) : wup M c o n f c' k = M c' k := by
  unfold wup
  rw [if_neg (fun e => h e.1)]
theorem wup_out {M : Mem} {c o n : Nat} {f : Nat → Int} {k : Nat} (h : k < o ∨ o + n ≤ k) : wup M c o n f c k = M c k := by
  unfold wup
  rw [if_neg (by omega)]
theorem wup_in {M : Mem} {c o n i : Nat} {f : Nat → Int} (h : i < n) : wup M c o n f c (o + i) = f i := by
  unfold wup
  rw [if_pos (by omega), show o + i - o = i from by omega]
theorem wup_at {M : Mem} {c o n : Nat} {f : Nat → Int} {a b : Nat} : wup M c o n f a b = if a = c ∧ o ≤ b ∧ b < o + n then f (b - o) else M a b := rfl
theorem cpy_wup {M : Mem} {c c' s d n : Nat} : cpy M c c' s d n = wup M c' d n (fun i => M c (s + i)) := rfl
theorem sb_wup {M : Mem} {c o n : Nat} {f : Nat → Int} {w : Nat} (h : w < 64 * n) : sb (wup M c o n f) c o w = qb (f (w / 64)) (w % 64) := by
  unfold sb
  rw [wup_in (by omega)]
theorem sb_wup_c {M : Mem} {c o n : Nat} {f : Nat → Int} {c' o' w : Nat} (h : c' ≠ c) : sb (wup M c o n f) c' o' w = sb M c' o' w := by
  unfold sb
  rw [wup_c h]
theorem sb_wup_o {M : Mem} {c o n : Nat} {f : Nat → Int} {o' w : Nat} (h : o' + w / 64 < o ∨ o + n ≤ o' + w / 64) : sb (wup M c o n f) c o' w = sb M c o' w := by
  unfold sb
  rw [wup_out h]
theorem sb_eq {M M' : Mem} {c o w : Nat} (h : M' c (o + w / 64) = M c (o + w / 64)) : sb M' c o w = sb M c o w := by
  unfold sb
  rw [h]
/-- how many are in the set -/
theorem JL_sum {M : Mem} {c o : Nat} : ∀ n, cnt (sb M c o) (64 * n) + cnt (qb (M c (o + n))) 64 = cnt (sb M c o) (64 * (n + 1)) := by
  intro n
  rw [show 64 * (n + 1) = 64 * n + 64 from by omega, cnt_add]
  congr 1
  refine cnt_congr (fun i hi => ?_)
  unfold sb
  rw [show (64 * n + i) / 64 = n from by omega, show (64 * n + i) % 64 = i from by omega]
theorem X_sizeOfSet_eq {c o n L : Nat} (M : Mem) (hL : aJ 80 c = (L : Int)) (h : o + n ≤ L) (hn : n ≤ 4) : X_sizeOfSet c (o : Int) (n : Int) M = some ((cnt (sb M c o) (64 * n) : Nat) : Int) := by
  have L := it_for (body := X_sizeOfSet_b5 c (o : Int) (n : Int) M) (a := (0, 0)) (b := ((cnt (sb M c o) (64 * n) : Nat) : Int)) (fun i => (((cnt (sb M c o) (64 * i) : Nat) : Int), (i : Int))) n (by unfold FUEL; omega) rfl ?_ ?_
  · unfold X_sizeOfSet
    rw [L]
    rfl
  · intro i hi
    unfold X_sizeOfSet_b5
    dsimp only
    rw [n32_nat (a := i) (by omega), n32_nat (a := n) (by omega), if_pos (by omega), hL, chk_pos (by omega), tn_add, JL_bit, bind_some']
    unfold lt1
    dsimp only
    rw [← JL_sum i]
    push_cast
    rfl
  · unfold X_sizeOfSet_b5
    dsimp only
    rw [if_neg (by omega)]
theorem aJ1 {t : Nat} (h : isT t) : aJ 80 (t + 8) = ((4 : Nat) : Int) ∧ aJ 80 (t + 9) = ((48 : Nat) : Int) ∧ aJ 80 (t + 10) = ((384 : Nat) : Int) ∧ aJ 80 (t + 11) = ((384 : Nat) : Int) := by
  rcases h with rfl | rfl <;> decide
theorem aJ30 : aJ 80 30 = ((100 : Nat) : Int) := by decide
theorem aJ48 : aJ 80 48 = ((160 : Nat) : Int) := by decide
theorem aJ73 : aJ 80 73 = ((4 : Nat) : Int) := by decide
theorem aJ75 : aJ 80 75 = ((16 : Nat) : Int) := by decide
theorem aJ80 : aJ 80 80 = ((4 : Nat) : Int) := by decide
theorem aJ32 : aJ 80 32 = ((8 : Nat) : Int) ∧ aJ 80 33 = ((8 : Nat) : Int) ∧ aJ 80 34 = ((12 : Nat) : Int) := by decide
theorem aJ93 : aJ 138 93 = ((16 : Nat) : Int) ∧ aJ 138 94 = ((16 : Nat) : Int) ∧ aJ 138 95 = ((24 : Nat) : Int) := by decide
