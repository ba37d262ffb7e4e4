/-! ===== what an e is in each world: the reference's columns ===== -/
def eOp (F : Nat) (B : Nat → Bool) (kn : Nat → Nat) (rf : Nat → Nat → Bool) (c : Int) (o : Nat) (st : List (Nat → Bool)) : List (Nat → Bool) :=
  if c = 1 then (fun w => w.testBit o) :: st
  else if c = 2 then rf o :: st
  else match st with
    | [] => []
    | x :: s =>
      if c = 3 then (fun w => !x w) :: s
      else if c = 4 then (fun w => allB (fun v => !(B v && eqv (kn o) v w) || x v) (2 ^ F)) :: s
      else if c = 5 then (fun w => anyB (fun v => B v && eqv (kn o) v w && x v) (2 ^ F)) :: s
      else match s with
        | [] => []
        | y :: s' => (fun w => if c = 6 then y w && x w else if c = 7 then y w || x w else y w || !x w) :: s'
def eRun (F : Nat) (B : Nat → Bool) (kn : Nat → Nat) (rf : Nat → Nat → Bool) (f g : Nat → Int) (lo : Nat) : Nat → List (Nat → Bool)
  | 0 => []
  | n + 1 => eOp F B kn rf (f (lo + n)) (g (lo + n)).toNat (eRun F B kn rf f g lo n)
/-- the pile's height after a step: at most 25 -/
def hS (c : Int) (h : Nat) : Option Nat := if c = 1 ∨ c = 2 ∨ (11 ≤ c ∧ c ≤ 15) then (if h < 25 then some (h + 1) else none) else if 3 ≤ c ∧ c ≤ 5 then (if 1 ≤ h then some h else none) else if 2 ≤ h then some (h - 1) else none
def hR (f : Nat → Int) (lo : Nat) : Nat → Nat → Option Nat
  | 0, h => some h
  | n + 1, h => (hR f lo n h).bind (hS (f (lo + n)))
def PS (Q : Nat → (Nat → Bool) → Prop) : Nat → List (Nat → Bool) → Prop
  | 0, [] => True
  | n + 1, x :: s => Q n x ∧ PS Q n s
  | _, _ => False
theorem PS_mono {Q Q' : Nat → (Nat → Bool) → Prop} : ∀ {n : Nat} {st : List (Nat → Bool)}, (∀ l, l < n → ∀ x, Q l x → Q' l x) → PS Q n st → PS Q' n st
  | 0, [], _, _ => trivial
  | 0, _ :: _, _, h => h
  | n + 1, [], _, h => h
  | n + 1, x :: s, hq, h => ⟨hq n (by omega) x h.1, PS_mono (fun l hl => hq l (by omega)) h.2⟩
theorem hR_le {f : Nat → Int} {lo : Nat} : ∀ {n h k : Nat}, h ≤ 25 → hR f lo n h = some k → k ≤ 25
  | 0, h, k, hh, e => by cases e; exact hh
  | n + 1, h, k, hh, e => by
    have e' : (hR f lo n h).bind (hS (f (lo + n))) = some k := e
    obtain ⟨m, e1, e2⟩ := Option.bind_eq_some_iff.mp e'
    have hm := hR_le hh e1
    unfold hS at e2
    split at e2
    · split at e2
      · cases e2; omega
      · cases e2
    · split at e2
      · split at e2
        · cases e2; omega
        · cases e2
      · split at e2
        · cases e2; omega
        · cases e2
/-- what comes ahead of a good end is good -/
theorem hR_pre {f : Nat → Int} {lo h x : Nat} : ∀ m n, hR f lo (n + m) h = some x → ∃ y, hR f lo n h = some y
  | 0, n, e => ⟨x, e⟩
  | m + 1, n, e => by
    have e' : (hR f lo (n + m) h).bind (hS (f (lo + (n + m)))) = some x := e
    obtain ⟨y, e1, -⟩ := Option.bind_eq_some_iff.mp e'
    exact hR_pre m n e1
theorem fill_loop {body : Int × Mem → Option ((Int × Mem) ⊕ Mem)} {M : Mem} {c base N : Nat} {x : Nat → Int} (hN : N ≤ 300) (step : ∀ i, i < N → ∀ M', onlyW c base i M M' → body ((i : Int), M') = some (.inl ((i : Int) + 1, up M' c (base + i) (x i)))) (fin : ∀ M', onlyW c base N M M' → body ((N : Int), M') = some (.inr M')) : Z (it body FUEL (0, M)) (fun M' => onlyW c base N M M' ∧ ∀ w, w < N → M' c (base + w) = x w) := by
  refine it_Z (fun i st => st.1 = (i : Int) ∧ onlyW c base i M st.2 ∧ ∀ w, w < i → st.2 c (base + w) = x w) N (by unfold FUEL; omega) ⟨rfl, onlyW_rfl, fun w hw => by omega⟩ ?_ ?_
  · rintro i ⟨l, M'⟩ hi ⟨el, f1, g1⟩
    dsimp only at el f1 g1
    subst el
    rw [step i hi M' f1]
    refine Z_of (Or.inl ⟨_, rfl, rfl, fun a k q => ?_, fun w hw => ?_⟩)
    · dsimp only
      rw [up_at, if_neg (by omega)]
      exact f1 a k (by omega)
    · dsimp only
      by_cases e : w = i
      · subst e; rw [up_eq]
      · rw [up_k (by omega)]
        exact g1 w (by omega)
  · rintro ⟨l, M'⟩ ⟨el, f1, g1⟩
    dsimp only at el f1 g1
    subst el
    rw [fin M' f1]
    exact Z_of ⟨_, rfl, f1, g1⟩
theorem xand_eqv {v w kn : Nat} (hv : v < 256) (hw : w < 256) (hk : kn < 256) : (n32 (iand (ixor' (v : Int) (w : Int)) (kn : Int)) = 0) ↔ eqv kn v w = true := by
  have h1 : v ^^^ w < 256 := Nat.xor_lt_two_pow (n := 8) hv hw
  have h2 : (v ^^^ w) &&& kn < 256 := Nat.lt_of_le_of_lt Nat.and_le_left h1
  rw [ixor_nat (by omega) (by omega), iand_nat (by omega) (by omega), n32_nat (by omega)]
  unfold eqv
  rw [decide_eq_true_eq]
  omega
section EVR
variable {b F : Nat} {R : Mem}
/-- the numbers that the columns are laid by -/
def WmR (b F : Nat) (M : Mem) : Prop := b < 2 ∧ M 81 38 = (b : Int) ∧ M 84 b = (F : Int) ∧ F ≤ 8
theorem Wm_eq {M : Mem} (h : WmR b F M) : M_worldMany M = some ((2 ^ F : Nat) : Int) := by
  obtain ⟨h1, h2, h3, h4⟩ := h
  unfold M_worldMany M_factMany
  rw [h2, chk_pos (by omega), tn_nat, h3, bind_some', ishl_1 (by omega)]
theorem Wm_o {M M' : Mem} {c o n : Nat} (hc : 90 ≤ c) (h : WmR b F M) (hm : onlyW c o n M M') : WmR b F M' := by
  obtain ⟨h1, h2, h3, h4⟩ := h
  exact ⟨h1, by rw [onlyW_c hm (by omega)]; exact h2, by rw [onlyW_c hm (by omega)]; exact h3, h4⟩
/-- level l of the pile holds x -/
def QR (F : Nat) (M : Mem) (l : Nat) (x : Nat → Bool) : Prop := ∀ w, w < 2 ^ F → M 113 (256 * l + w) = b1 (x w)
theorem QR_o {M M' : Mem} {l n k : Nat} {x : Nat → Bool} (hF : F ≤ 8) (h : QR F M l x) (hm : onlyW 113 (256 * n) k M M') (hk : k ≤ 256) (hl : l ≠ n) : QR F M' l x := by
  have h8 := two_pow8 hF
  intro w hw
  rw [hm 113 _ (by omega)]
  exact h w hw
theorem r_push {M : Mem} (h : WmR b F M) {c n o : Nat} (hn : n < 25) {x : Nat → Bool} (hx : (c = 1 ∧ o < 8 ∧ x = fun w => w.testBit o) ∨ (c = 2 ∧ o < 12 ∧ ∀ w, w < 2 ^ F → M 112 (256 * o + w) = b1 (x w))) : Z (it (M_layColumn_b50 (n : Int) (c : Int) (o : Int)) FUEL (0, M)) (fun M' => onlyW 113 (256 * n) (2 ^ F) M M' ∧ QR F M' n x) := by
  have h8 := two_pow8 h.2.2.2
  refine fill_loop (x := fun w => b1 (x w)) (by omega) ?_ ?_
  · intro i hi M' f
    unfold M_layColumn_b50
    dsimp only
    rw [Wm_eq (Wm_o (by omega) h f), bind_some', n32_nat (by omega), n32_nat (by omega), if_pos (by omega)]
    unfold M_spot
    rw [bind_some']
    rcases hx with ⟨rfl, h1, rfl⟩ | ⟨rfl, h1, h2⟩
    · rw [if_pos (by decide), hb_eq (by omega) (by omega)]
      have e : (if n32 (if i.testBit o = true then (1 : Int) else 0) = 1 then some (1 : Int) else some 0) = some (b1 (i.testBit o)) := by cases i.testBit o <;> rfl
      rw [e, bind_some', chk_pos (by omega), chk_pos (b1_01 _), lt1_eq, lt1_eq, tn_256]
    · rw [if_neg (by decide), bind_some', chk_pos (by omega), tn_256, onlyW_c f (by decide), h2 i hi, bind_some', chk_pos (by omega), chk_pos (b1_01 _), lt1_eq, lt1_eq, tn_256]
  · intro M' f
    unfold M_layColumn_b50
    dsimp only
    rw [Wm_eq (Wm_o (by omega) h f), bind_some', if_neg (by omega)]
theorem r_not {M : Mem} (h : WmR b F M) {n : Nat} (hn : n < 25) {x : Nat → Bool} (hx : QR F M n x) : Z (it (M_layColumn_b128 ((n + 1 : Nat) : Int)) FUEL (0, M)) (fun M' => onlyW 113 (256 * n) (2 ^ F) M M' ∧ QR F M' n (fun w => !x w)) := by
  have h8 := two_pow8 h.2.2.2
  refine fill_loop (x := fun w => b1 (!x w)) (by omega) ?_ ?_
  · intro i hi M' f
    unfold M_layColumn_b128
    dsimp only
    rw [Wm_eq (Wm_o (by omega) h f), bind_some', n32_nat (by omega), n32_nat (by omega), if_pos (by omega)]
    unfold M_spot
    rw [bind_some', bind_some', chk_pos (by omega), show ((n + 1 : Nat) : Int) - 1 = (n : Int) by omega, tn_256, f 113 _ (by omega), hx i hi]
    have e : (if n32 (b1 (x i)) = 0 then some (1 : Int) else some 0) = some (b1 (!x i)) := by cases x i <;> rfl
    rw [e, bind_some', chk_pos (by omega), chk_pos (b1_01 _), lt1_eq, lt1_eq]
  · intro M' f
    unfold M_layColumn_b128
    dsimp only
    rw [Wm_eq (Wm_o (by omega) h f), bind_some', if_neg (by omega)]
theorem r_both {M : Mem} (h : WmR b F M) {c n : Nat} (hn : n + 1 < 25) (hc : c = 6 ∨ c = 7 ∨ c = 8) {x y : Nat → Bool} (hy : QR F M n y) (hx : QR F M (n + 1) x) : Z (M_bothOf (c : Int) ((n + 1 : Nat) : Int) M) (fun M' => onlyW 113 (256 * n) (2 ^ F) M M' ∧ QR F M' n (fun w => if (c : Int) = 6 then y w && x w else if (c : Int) = 7 then y w || x w else y w || !x w)) := by
  have h8 := two_pow8 h.2.2.2
  unfold M_bothOf
  rw [Z_bind_iff]
  have L1 := fill_loop (body := M_bothOf_b2 (c : Int) ((n + 1 : Nat) : Int)) (M := M) (c := 113) (base := 256 * n) (N := 2 ^ F) (x := fun w => b1 (if (c : Int) = 6 then y w && x w else if (c : Int) = 7 then y w || x w else y w || !x w)) (by omega) ?_ ?_
  · exact Z_mono L1 (fun M' h => Z_of h)
  · intro i hi M' f
    unfold M_bothOf_b2
    dsimp only
    rw [Wm_eq (Wm_o (by omega) h f), bind_some', n32_nat (by omega), n32_nat (by omega), if_pos (by omega)]
    unfold M_spot
    rw [bind_some', show ((n + 1 : Nat) : Int) - 1 = (n : Int) by omega, chk_pos (by omega), lt1_eq, bind_some', chk_pos (by omega), lt1_eq, bind_some', tn_256, tn_256, f 113 _ (by omega), hy i hi, f 113 _ (by omega), hx i hi]
    have e : (if n32 (c : Int) = 6 then if (¬ n32 (b1 (y i)) = 0) ∧ (¬ n32 (b1 (x i)) = 0) then some (1 : Int) else some (0 : Int) else if n32 (c : Int) = 7 then if (¬ n32 (b1 (y i)) = 0) ∨ (¬ n32 (b1 (x i)) = 0) then some (1 : Int) else some (0 : Int) else if (¬ n32 (b1 (y i)) = 0) ∨ (n32 (b1 (x i)) = 0) then some (1 : Int) else some (0 : Int)) = some (b1 (if (c : Int) = 6 then y i && x i else if (c : Int) = 7 then y i || x i else y i || !x i)) := by
      rcases hc with rfl | rfl | rfl <;> cases x i <;> cases y i <;> rfl
    rw [e, bind_some', chk_pos (by omega), chk_pos (b1_01 _), lt1_eq, lt1_eq]
  · intro M' f
    unfold M_bothOf_b2
    dsimp only
    rw [Wm_eq (Wm_o (by omega) h f), bind_some', if_neg (by omega)]
theorem anyB_s (p : Nat → Bool) (n : Nat) : anyB p (n + 1) = (anyB p n || p n) := rfl
theorem minds_in {M : Mem} (h : WmR b F M) (hB : ∀ w, w < 2 ^ F → M 111 w = b1 (isB M w)) {n kn w : Nat} (hn : n < 25) (hk : kn < 256) (hw : w < 2 ^ F) {x : Nat → Bool} (hx : QR F M n x) (hd : Bool) : it (M_minds_b34 (n : Int) (b1 hd) (kn : Int) (w : Int) M) FUEL (b1 hd, 0) = some (b1 (if hd then allB (fun v => !(isB M v && eqv kn v w) || x v) (2 ^ F) else anyB (fun v => isB M v && eqv kn v w && x v) (2 ^ F))) := by
  have h8 := two_pow8 h.2.2.2
  refine it_for (fun i => (b1 (if hd then allB (fun v => !(isB M v && eqv kn v w) || x v) i else anyB (fun v => isB M v && eqv kn v w && x v) i), (i : Int))) (2 ^ F) (by unfold FUEL; omega) (by cases hd <;> rfl) ?_ ?_
  · intro i hi
    unfold M_minds_b34
    dsimp only
    rw [Wm_eq h, bind_some', n32_nat (by omega), n32_nat (by omega), if_pos (by omega), chk_pos (by omega), tn_nat, hB i hi]
    unfold M_spot
    cases hb : isB M i with
    | false =>
      rw [show b1 false = 0 from rfl, if_neg nz0, bind_some', lt1_eq]
      cases hd with
      | true => rw [if_pos rfl, if_pos rfl, allB_succ, hb]; simp
      | false => simp only [Bool.false_eq_true, ↓reduceIte]; rw [anyB_s, hb]; simp
    | true =>
      rw [show b1 true = 1 from rfl, if_pos nz1]
      cases he : eqv kn i w with
      | false =>
        rw [if_pos (fun z => by rw [(xand_eqv (by omega) (by omega) hk).mp z] at he; cases he), bind_some', lt1_eq]
        cases hd with
        | true => rw [if_pos rfl, if_pos rfl, allB_succ, hb, he]; simp
        | false => simp only [Bool.false_eq_true, ↓reduceIte]; rw [anyB_s, hb, he]; simp
      | true =>
        rw [if_neg (not_not_intro ((xand_eqv (by omega) (by omega) hk).mpr he))]
        cases hd with
        | true =>
          rw [if_pos rfl, if_pos rfl, allB_succ, hb, he]
          rw [show b1 true = 1 from rfl, if_pos nz1]
          cases ha : allB (fun v => !(isB M v && eqv kn v w) || x v) i with
          | false => rfl
          | true =>
            rw [show b1 true = 1 from rfl, if_pos nz1, bind_some', chk_pos (by omega), tn_256, hx i hi]
            cases x i <;> rfl
        | false =>
          simp only [Bool.false_eq_true, ↓reduceIte]
          rw [anyB_s, hb, he, show b1 false = 0 from rfl, if_neg nz0]
          cases ha : anyB (fun v => isB M v && eqv kn v w && x v) i with
          | true => rfl
          | false =>
            rw [show b1 false = 0 from rfl, if_pos (by decide), bind_some', chk_pos (by omega), tn_256, hx i hi]
            cases x i <;> rfl
  · unfold M_minds_b34
    dsimp only
    rw [Wm_eq h, bind_some', if_neg (by omega)]
theorem r_minds {M : Mem} (h : WmR b F M) (hB : ∀ w, w < 2 ^ F → M 111 w = b1 (isB M w)) {n p kn : Nat} (hn : n < 25) (hp : p < 8) (hk : kn < 256) (hkn : M 97 (8 * b + p) = (kn : Int)) {x : Nat → Bool} (hx : QR F M n x) (hd : Bool) : Z (M_minds (n : Int) (p : Int) (b1 hd) M) (fun M' => onlyW 113 (256 * n) 512 M M' ∧ QR F M' n (fun w => if hd then allB (fun v => !(isB M v && eqv kn v w) || x v) (2 ^ F) else anyB (fun v => isB M v && eqv kn v w && x v) (2 ^ F))) := by
  have h8 := two_pow8 h.2.2.2
  have hb := h.1
  unfold M_minds
  rw [h.2.1, chk_pos (by omega), lt1_eq, tn_8, hkn, Z_bind_iff]
  have L1 := fill_loop (body := M_minds_b19 (n : Int) (b1 hd) (kn : Int)) (M := M) (c := 113) (base := 256 * (n + 1)) (N := 2 ^ F) (x := fun w => b1 (if hd then allB (fun v => !(isB M v && eqv kn v w) || x v) (2 ^ F) else anyB (fun v => isB M v && eqv kn v w && x v) (2 ^ F))) (by omega) ?_ ?_
  · refine Z_mono L1 ?_
    rintro M1 ⟨f1, g1⟩
    rw [Z_bind_iff]
    have L2 := fill_loop (body := M_minds_b154 (n : Int)) (M := M1) (c := 113) (base := 256 * n) (N := 2 ^ F) (x := fun w => b1 (if hd then allB (fun v => !(isB M v && eqv kn v w) || x v) (2 ^ F) else anyB (fun v => isB M v && eqv kn v w && x v) (2 ^ F))) (by omega) ?_ ?_
    · refine Z_mono L2 ?_
      rintro M2 ⟨f2, g2⟩
      refine Z_of ⟨fun a k q => ?_, g2⟩
      rw [f2 a k (by omega), f1 a k (by omega)]
    · intro i hi M' f
      unfold M_minds_b154
      dsimp only
      rw [Wm_eq (Wm_o (by omega) (Wm_o (by omega) h f1) f), bind_some', n32_nat (by omega), n32_nat (by omega), if_pos (by omega)]
      unfold M_spot
      rw [bind_some', bind_some', show (n : Int) + 1 = ((n + 1 : Nat) : Int) by omega, chk_pos (by omega), chk_pos (by omega), tn_256, tn_256, f 113 _ (by omega), g1 i hi, chk_pos (b1_01 _), lt1_eq, lt1_eq]
    · intro M' f
      unfold M_minds_b154
      dsimp only
      rw [Wm_eq (Wm_o (by omega) (Wm_o (by omega) h f1) f), bind_some', if_neg (by omega)]
  · intro i hi M' f
    have hM' : WmR b F M' := Wm_o (by omega) h f
    have eI : ∀ w, isB M' w = isB M w := fun w => by unfold isB; rw [onlyW_c f (by decide)]
    have hi' := minds_in hM' (fun w hw => by rw [onlyW_c f (by decide), eI]; exact hB w hw) (n := n) (kn := kn) (w := i) hn hk hi (x := x) (fun w hw => by rw [f 113 _ (by omega)]; exact hx w hw) hd
    unfold M_minds_b19
    dsimp only
    rw [Wm_eq hM', bind_some', n32_nat (by omega), n32_nat (by omega), if_pos (by omega), hi', bind_some']
    unfold M_spot
    rw [bind_some', show (n : Int) + 1 = ((n + 1 : Nat) : Int) by omega, chk_pos (by omega), chk_pos (b1_01 _), lt1_eq, lt1_eq, tn_256]
    simp only [eI]
  · intro M' f
    unfold M_minds_b19
    dsimp only
    rw [Wm_eq (Wm_o (by omega) h f), bind_some', if_neg (by omega)]
end EVR
