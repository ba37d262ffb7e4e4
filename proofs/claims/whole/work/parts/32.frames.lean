/-! ===== frames: what a plain function leaves as it was (by gen_frames.py) ===== -/
def fr (P : Nat → Nat → Prop) (M0 M : Mem) : Prop := ∀ c k, P c k → M c k = M0 c k
def A {α : Type} (K : α → Prop) (e : Option α) : Prop := ∀ a, e = some a → K a
def sK {α β : Type} (I : α → Prop) (J : β → Prop) (x : α ⊕ β) : Prop := match x with
  | .inl a => I a
  | .inr b => J b
theorem fr_up {P : Nat → Nat → Prop} {M0 M : Mem} {c k : Nat} {v : Int} (w : ¬ P c k) (h : fr P M0 M) : fr P M0 (up M c k v) := by
  intro a b hp
  rw [← h a b hp]
  unfold up
  rw [if_neg]
  rintro ⟨rfl, rfl⟩
  exact w hp
theorem fr_cpy {P : Nat → Nat → Prop} {M0 M : Mem} {c c' sp dp len : Nat} (w : ∀ k, ¬ P c' k) (h : fr P M0 M) : fr P M0 (cpy M c c' sp dp len) := by
  intro a b hp
  rw [← h a b hp]
  unfold cpy
  rw [if_neg]
  rintro ⟨rfl, -, -⟩
  exact w _ hp
theorem fr_rfl {P : Nat → Nat → Prop} {M : Mem} : fr P M M := fun _ _ _ => rfl
theorem A_some {α : Type} {K : α → Prop} {a : α} (h : K a) : A K (some a) := by
  intro b hb
  cases hb
  exact h
theorem A_none {α : Type} {K : α → Prop} : A K (none : Option α) := fun _ h => by cases h
theorem A_chk {α : Type} {K : α → Prop} {p : Prop} [Decidable p] {e : Option α} (h : p → A K e) : A K (chk p e) := by
  intro b hb
  unfold chk at hb
  split at hb
  · exact h (by assumption) b hb
  · cases hb
theorem A_ite {α : Type} {K : α → Prop} {p : Prop} [Decidable p] {a b : Option α} (h1 : p → A K a) (h2 : ¬ p → A K b) : A K (if p then a else b) := by
  intro x hx
  split at hx
  · exact h1 (by assumption) x hx
  · exact h2 (by assumption) x hx
theorem A_lt {α β : Type} {K : β → Prop} {a : α} {f : α → Option β} (h : ∀ x, A K (f x)) : A K (lt1 a f) := h a
theorem A_ltE {α β : Type} {K : β → Prop} {a : α} {f : α → Option β} (h : ∀ x, x = a → A K (f x)) : A K (lt1 a f) := h a rfl
theorem A_ltM {β : Type} {P : Nat → Nat → Prop} {M0 : Mem} {K : β → Prop} {a : Mem} {f : Mem → Option β} (h0 : fr P M0 a) (h : ∀ x, fr P M0 x → A K (f x)) : A K (lt1 a f) := h a h0
theorem A_T {β : Type} {K : β → Prop} {x : Int} {f : Nat → Option β} (h : ∀ t, isT t → A K (f t)) : A K (chk (isTI x) (lt1 x.toNat f)) := by
  intro b hb
  unfold chk at hb
  split at hb
  · rename_i hx
    exact h _ hx.to.2 b hb
  · cases hb
theorem A_S {β : Type} {K : β → Prop} {x : Int} {f : Nat → Option β} (h : ∀ s, isY s → A K (f s)) : A K (chk (0 ≤ x ∧ x < 3) (lt1 (50 + 7 * x.toNat) f)) := by
  intro b hb
  unfold chk at hb
  split at hb
  · rename_i hx
    refine h _ ?_ b hb
    unfold isY
    omega
  · cases hb
theorem A_bind {α β : Type} {J : α → Prop} {K : β → Prop} {e : Option α} {f : α → Option β} (h1 : A J e) (h2 : ∀ a, J a → A K (f a)) : A K (e.bind f) := by
  intro b hb
  obtain ⟨a, ha, hb⟩ := Option.bind_eq_some_iff.mp hb
  exact h2 a (h1 a ha) b hb
theorem A_bT {α β : Type} {K : β → Prop} {e : Option α} {f : α → Option β} (h2 : ∀ a, A K (f a)) : A K (e.bind f) := by
  intro b hb
  obtain ⟨a, ha, hb⟩ := Option.bind_eq_some_iff.mp hb
  exact h2 a b hb
theorem A_jn {α β : Type} {J : α → Prop} {K : β → Prop} {k : α → Option β} {f : (α → Option β) → Option β} (h1 : ∀ x, J x → A K (k x)) (h2 : ∀ k', (∀ x, J x → A K (k' x)) → A K (f k')) : A K (jn k f) := h2 k h1
theorem A_it {α β : Type} {body : α → Option (α ⊕ β)} {I : α → Prop} {K : β → Prop} (h : ∀ a, I a → A (sK I K) (body a)) : ∀ {n : Nat} {a : α}, I a → A K (it body n a)
  | 0, _, _ => A_none
  | n + 1, a, ha => by
    refine A_bind (h a ha) ?_
    rintro (x | x) hx
    · exact A_it h hx
    · exact A_some hx
theorem fz_T_clear_b32 {P : Nat → Nat → Prop} {M0 : Mem} {t : Nat} (wt3 : ∀ k, ¬ P (t + 3) k) : ∀ x, (fun r => fr P M0 r.2) x → A (sK (fun r => fr P M0 r.2) (fr P M0)) (T_clear_b32 t x) := by
  rintro ⟨l1_7, M_8⟩ h_M_8
  try dsimp only at h_M_8
  unfold T_clear_b32
  try dsimp only
  refine A_ite (fun _ => ?_) (fun _ => ?_)
  ·
    refine A_chk (fun hchk => ?_)
    refine A_ltM (fr_up (wt3 _) h_M_8) (fun M_18 h_M_18 => ?_)
    refine A_lt (fun l1_19 => ?_)
    exact A_some h_M_18
  ·
    exact A_some h_M_8
theorem fz_T_clear_b53 {P : Nat → Nat → Prop} {M0 : Mem} {t : Nat} (wt7 : ∀ k, ¬ P (t + 7) k) : ∀ x, (fun r => fr P M0 r.2) x → A (sK (fun r => fr P M0 r.2) (fr P M0)) (T_clear_b53 t x) := by
  rintro ⟨l1_21, M_22⟩ h_M_22
  try dsimp only at h_M_22
  unfold T_clear_b53
  try dsimp only
  refine A_ite (fun _ => ?_) (fun _ => ?_)
  ·
    refine A_chk (fun hchk => ?_)
    refine A_ltM (fr_up (wt7 _) h_M_22) (fun M_32 h_M_32 => ?_)
    refine A_lt (fun l1_33 => ?_)
    exact A_some h_M_32
  ·
    exact A_some h_M_22
theorem fz_T_clear {P : Nat → Nat → Prop} {M0 M : Mem} {t : Nat} (wt0_0 : ¬ P t 0) (wt0_1 : ¬ P t 1) (wt0_2 : ¬ P t 2) (wt0_3 : ¬ P t 3) (wt0_4 : ¬ P t 4) (wt0_5 : ¬ P t 5) (wt3 : ∀ k, ¬ P (t + 3) k) (wt7 : ∀ k, ¬ P (t + 7) k) (h_M : fr P M0 M) : A (fr P M0) (T_clear t M) := by
  unfold T_clear
  refine A_ltM (fr_up wt0_0 h_M) (fun M_1 h_M_1 => ?_)
  refine A_ltM (fr_up wt0_1 h_M_1) (fun M_2 h_M_2 => ?_)
  refine A_ltM (fr_up wt0_2 h_M_2) (fun M_3 h_M_3 => ?_)
  refine A_ltM (fr_up wt0_3 h_M_3) (fun M_4 h_M_4 => ?_)
  refine A_ltM (fr_up wt0_4 h_M_4) (fun M_5 h_M_5 => ?_)
  refine A_ltM (fr_up wt0_5 h_M_5) (fun M_6 h_M_6 => ?_)
  refine A_bind (J := (fr P M0)) (A_it (I := (fun r => fr P M0 r.2)) (fun x hx => fz_T_clear_b32 wt3 x hx) h_M_6) ?_
  rintro M_15 h_M_15
  try dsimp only at h_M_15
  try dsimp only
  refine A_bind (J := (fr P M0)) (A_it (I := (fun r => fr P M0 r.2)) (fun x hx => fz_T_clear_b53 wt7 x hx) h_M_15) ?_
  rintro M_29 h_M_29
  try dsimp only at h_M_29
  try dsimp only
  exact A_some h_M_29
theorem fz_K_fail {P : Nat → Nat → Prop} {M0 M : Mem} {what : Int} (w40_4 : ¬ P 40 4) (w40_8 : ¬ P 40 8) (w40_9 : ¬ P 40 9) (h_M : fr P M0 M) : A (fr P M0) (K_fail what M) := by
  unfold K_fail
  refine A_ite (fun _ => ?_) (fun _ => ?_)
  ·
    refine A_ltM (fr_up w40_4 h_M) (fun M_1 h_M_1 => ?_)
    refine A_ltM (fr_up w40_8 h_M_1) (fun M_2 h_M_2 => ?_)
    refine A_ltM (fr_up w40_9 h_M_2) (fun M_3 h_M_3 => ?_)
    exact A_some h_M_3
  ·
    exact A_some h_M
theorem fz_K_readWord_b5 {P : Nat → Nat → Prop} {M0 : Mem}  (w40_7 : ¬ P 40 7) (w40_3 : ¬ P 40 3) : ∀ x, (fr P M0) x → A (sK (fr P M0) (fr P M0)) (K_readWord_b5 x) := by
  rintro M_2 h_M_2
  try dsimp only at h_M_2
  unfold K_readWord_b5
  try dsimp only
  refine A_bT (fun x => ?_)
  try dsimp only
  refine A_ite (fun _ => ?_) (fun _ => ?_)
  ·
    refine A_chk (fun hchk => ?_)
    refine A_bT (fun x => ?_)
    try dsimp only
    refine A_ltM (fr_up w40_7 h_M_2) (fun M_21 h_M_21 => ?_)
    refine A_ltM (fr_up w40_3 h_M_21) (fun M_22 h_M_22 => ?_)
    exact A_some h_M_22
  ·
    exact A_some h_M_2
theorem fz_K_readWord_b92 {P : Nat → Nat → Prop} {M0 : Mem}  (w40_4 : ¬ P 40 4) : ∀ x, (fun r => fr P M0 r.2) x → A (sK (fun r => fr P M0 r.2) (fr P M0)) (K_readWord_b92 x) := by
  rintro ⟨l1_25, M_26⟩ h_M_26
  try dsimp only at h_M_26
  unfold K_readWord_b92
  try dsimp only
  refine A_ite (fun _ => ?_) (fun _ => ?_)
  ·
    refine A_chk (fun hchk => ?_)
    refine A_bind (J := (fr P M0)) ?_ ?_
    ·
      refine A_ite (fun _ => ?_) (fun _ => ?_)
      ·
        refine A_ltM (fr_up w40_4 h_M_26) (fun M_40 h_M_40 => ?_)
        exact A_some h_M_40
      ·
        exact A_some h_M_26
    rintro M_36 h_M_36
    try dsimp only at h_M_36
    try dsimp only
    refine A_lt (fun l1_42 => ?_)
    exact A_some h_M_36
  ·
    exact A_some h_M_26
theorem fz_K_readWord {P : Nat → Nat → Prop} {M0 M : Mem}  (w40_7 : ¬ P 40 7) (w40_3 : ¬ P 40 3) (w40_4 : ¬ P 40 4) (w40_8 : ¬ P 40 8) (w40_9 : ¬ P 40 9) (h_M : fr P M0 M) : A (fr P M0) (K_readWord M) := by
  unfold K_readWord
  refine A_ltM (fr_up w40_7 h_M) (fun M_1 h_M_1 => ?_)
  refine A_bind (J := (fr P M0)) (A_it (I := (fr P M0)) (fun x hx => fz_K_readWord_b5 w40_7 w40_3 x hx) h_M_1) ?_
  rintro M_9 h_M_9
  try dsimp only at h_M_9
  try dsimp only
  refine A_ite (fun _ => ?_) (fun _ => ?_)
  ·
    refine A_bind (fz_K_fail w40_4 w40_8 w40_9 h_M_9) ?_
    rintro M_23 h_M_23
    try dsimp only at h_M_23
    try dsimp only
    exact A_some h_M_23
  ·
    refine A_ltM (fr_up w40_4 h_M_9) (fun M_24 h_M_24 => ?_)
    refine A_bind (J := (fr P M0)) (A_it (I := (fun r => fr P M0 r.2)) (fun x hx => fz_K_readWord_b92 w40_4 x hx) h_M_24) ?_
    rintro M_33 h_M_33
    try dsimp only at h_M_33
    try dsimp only
    exact A_some h_M_33
theorem fz_K_readNumber_b5 {P : Nat → Nat → Prop} {M0 : Mem}  (w40_6 : ¬ P 40 6) (w40_3 : ¬ P 40 3) : ∀ x, (fr P M0) x → A (sK (fr P M0) (fr P M0)) (K_readNumber_b5 x) := by
  rintro M_2 h_M_2
  try dsimp only at h_M_2
  unfold K_readNumber_b5
  try dsimp only
  refine A_bT (fun x => ?_)
  try dsimp only
  refine A_ite (fun _ => ?_) (fun _ => ?_)
  ·
    refine A_chk (fun hchk => ?_)
    refine A_ltM (fr_up w40_6 h_M_2) (fun M_20 h_M_20 => ?_)
    refine A_ltM (fr_up w40_3 h_M_20) (fun M_21 h_M_21 => ?_)
    exact A_some h_M_21
  ·
    exact A_some h_M_2
theorem fz_K_readNumber {P : Nat → Nat → Prop} {M0 M : Mem}  (w40_6 : ¬ P 40 6) (w40_3 : ¬ P 40 3) (w40_4 : ¬ P 40 4) (w40_8 : ¬ P 40 8) (w40_9 : ¬ P 40 9) (h_M : fr P M0 M) : A (fr P M0) (K_readNumber M) := by
  unfold K_readNumber
  refine A_ltM (fr_up w40_6 h_M) (fun M_1 h_M_1 => ?_)
  refine A_bind (J := (fr P M0)) (A_it (I := (fr P M0)) (fun x hx => fz_K_readNumber_b5 w40_6 w40_3 x hx) h_M_1) ?_
  rintro M_9 h_M_9
  try dsimp only at h_M_9
  try dsimp only
  refine A_jn (J := fr P M0) (fun M_22 h_M_22 => ?_) (fun j_23 hj_23 => ?_)
  ·
    refine A_bind (fz_K_fail w40_4 w40_8 w40_9 h_M_22) ?_
    rintro M_36 h_M_36
    try dsimp only at h_M_36
    try dsimp only
    exact A_some h_M_36
  refine A_ite (fun _ => ?_) (fun _ => ?_)
  ·
    refine A_bT (fun x => ?_)
    try dsimp only
    refine A_ite (fun _ => ?_) (fun _ => ?_)
    ·
      exact hj_23 _ h_M_9
    ·
      refine A_ltM (fr_up w40_4 h_M_9) (fun M_34 h_M_34 => ?_)
      exact A_some h_M_34
  ·
    exact hj_23 _ h_M_9
theorem fz_K_pass_b10 {P : Nat → Nat → Prop} {M0 : Mem}  (w40_3 : ¬ P 40 3) : ∀ x, (fr P M0) x → A (sK (fr P M0) (fr P M0)) (K_pass_b10 x) := by
  rintro M_1 h_M_1
  try dsimp only at h_M_1
  unfold K_pass_b10
  try dsimp only
  refine A_bT (fun x => ?_)
  try dsimp only
  refine A_ite (fun _ => ?_) (fun _ => ?_)
  ·
    refine A_ltM (fr_up w40_3 h_M_1) (fun M_17 h_M_17 => ?_)
    exact A_some h_M_17
  ·
    exact A_some h_M_1
theorem fz_K_pass {P : Nat → Nat → Prop} {M0 M : Mem}  (w40_3 : ¬ P 40 3) (w40_5 : ¬ P 40 5) (w40_4 : ¬ P 40 4) (w40_7 : ¬ P 40 7) (w40_8 : ¬ P 40 8) (w40_9 : ¬ P 40 9) (w40_6 : ¬ P 40 6) (h_M : fr P M0 M) : A (fr P M0) (K_pass M) := by
  unfold K_pass
  refine A_ite (fun _ => ?_) (fun _ => ?_)
  ·
    exact A_some h_M
  ·
    refine A_bind (J := (fr P M0)) (A_it (I := (fr P M0)) (fun x hx => fz_K_pass_b10 w40_3 x hx) h_M) ?_
    rintro M_8 h_M_8
    try dsimp only at h_M_8
    try dsimp only
    refine A_ltM (fr_up w40_5 h_M_8) (fun M_18 h_M_18 => ?_)
    refine A_ite (fun _ => ?_) (fun _ => ?_)
    ·
      refine A_ltM (fr_up w40_4 h_M_18) (fun M_19 h_M_19 => ?_)
      exact A_some h_M_19
    ·
      refine A_chk (fun hchk => ?_)
      refine A_bT (fun x => ?_)
      try dsimp only
      refine A_ite (fun _ => ?_) (fun _ => ?_)
      ·
        refine A_bind (fz_K_readWord w40_7 w40_3 w40_4 w40_8 w40_9 h_M_18) ?_
        rintro M_23 h_M_23
        try dsimp only at h_M_23
        try dsimp only
        exact A_some h_M_23
      ·
        refine A_bT (fun x => ?_)
        try dsimp only
        refine A_ite (fun _ => ?_) (fun _ => ?_)
        ·
          refine A_bind (fz_K_readNumber w40_6 w40_3 w40_4 w40_8 w40_9 h_M_18) ?_
          rintro M_25 h_M_25
          try dsimp only at h_M_25
          try dsimp only
          exact A_some h_M_25
        ·
          refine A_bT (fun x => ?_)
          try dsimp only
          refine A_ite (fun _ => ?_) (fun _ => ?_)
          ·
            refine A_ltM (fr_up w40_4 h_M_18) (fun M_27 h_M_27 => ?_)
            refine A_ltM (fr_up w40_3 h_M_27) (fun M_28 h_M_28 => ?_)
            exact A_some h_M_28
          ·
            refine A_bind (fz_K_fail w40_4 w40_8 w40_9 h_M_18) ?_
            rintro M_29 h_M_29
            try dsimp only at h_M_29
            try dsimp only
            exact A_some h_M_29
theorem fz_K_start {P : Nat → Nat → Prop} {M0 M : Mem} {bytes : Int} (w40_2 : ¬ P 40 2) (w40_3 : ¬ P 40 3) (w40_8 : ¬ P 40 8) (w40_9 : ¬ P 40 9) (w40_4 : ¬ P 40 4) (w40_5 : ¬ P 40 5) (w40_7 : ¬ P 40 7) (w40_6 : ¬ P 40 6) (h_M : fr P M0 M) : A (fr P M0) (K_start bytes M) := by
  unfold K_start
  refine A_ltM (fr_up w40_2 h_M) (fun M_1 h_M_1 => ?_)
  refine A_ltM (fr_up w40_3 h_M_1) (fun M_2 h_M_2 => ?_)
  refine A_ltM (fr_up w40_8 h_M_2) (fun M_3 h_M_3 => ?_)
  refine A_ltM (fr_up w40_9 h_M_3) (fun M_4 h_M_4 => ?_)
  refine A_ltM (fr_up w40_4 h_M_4) (fun M_5 h_M_5 => ?_)
  refine A_bind (fz_K_pass w40_3 w40_5 w40_4 w40_7 w40_8 w40_9 w40_6 h_M_5) ?_
  rintro M_6 h_M_6
  try dsimp only at h_M_6
  try dsimp only
  exact A_some h_M_6
theorem fz_N_begin {P : Nat → Nat → Prop} {M0 M : Mem} {room : Int} (w40_3 : ¬ P 40 3) (w40_5 : ¬ P 40 5) (w40_4 : ¬ P 40 4) (w40_7 : ¬ P 40 7) (w40_8 : ¬ P 40 8) (w40_9 : ¬ P 40 9) (w40_6 : ¬ P 40 6) (h_M : fr P M0 M) : A (fr P M0) (N_begin room M) := by
  unfold N_begin
  refine A_ite (fun _ => ?_) (fun _ => ?_)
  ·
    refine A_bind (fz_K_pass w40_3 w40_5 w40_4 w40_7 w40_8 w40_9 w40_6 h_M) ?_
    rintro M_1 h_M_1
    try dsimp only at h_M_1
    try dsimp only
    exact A_some h_M_1
  ·
    refine A_bind (fz_K_fail w40_4 w40_8 w40_9 h_M) ?_
    rintro M_2 h_M_2
    try dsimp only at h_M_2
    try dsimp only
    exact A_some h_M_2
theorem fz_N_seesName {P : Nat → Nat → Prop} {M0 M : Mem}  (w40_4 : ¬ P 40 4) (w40_8 : ¬ P 40 8) (w40_9 : ¬ P 40 9) (h_M : fr P M0 M) : A (fun r => fr P M0 r.2) (N_seesName M) := by
  unfold N_seesName
  refine A_bind (J := (fr P M0)) ?_ ?_
  ·
    refine A_ite (fun _ => ?_) (fun _ => ?_)
    ·
      refine A_bind (fz_K_fail w40_4 w40_8 w40_9 h_M) ?_
      rintro M_5 h_M_5
      try dsimp only at h_M_5
      try dsimp only
      exact A_some h_M_5
    ·
      exact A_some h_M
  rintro M_1 h_M_1
  try dsimp only at h_M_1
  try dsimp only
  refine A_ite (fun _ => ?_) (fun _ => ?_)
  ·
    exact A_some h_M_1
  ·
    exact A_some h_M_1
theorem fz_N_takeName {P : Nat → Nat → Prop} {M0 M : Mem}  (w40_3 : ¬ P 40 3) (w40_5 : ¬ P 40 5) (w40_4 : ¬ P 40 4) (w40_7 : ¬ P 40 7) (w40_8 : ¬ P 40 8) (w40_9 : ¬ P 40 9) (w40_6 : ¬ P 40 6) (h_M : fr P M0 M) : A (fun r => fr P M0 r.2) (N_takeName M) := by
  unfold N_takeName
  refine A_lt (fun l1_1 => ?_)
  refine A_bind (fz_K_pass w40_3 w40_5 w40_4 w40_7 w40_8 w40_9 w40_6 h_M) ?_
  rintro M_2 h_M_2
  try dsimp only at h_M_2
  try dsimp only
  exact A_some h_M_2
theorem fz_N_readNewOfFactsAndRows {P : Nat → Nat → Prop} {M0 M : Mem}  (w40_4 : ¬ P 40 4) (w40_8 : ¬ P 40 8) (w40_9 : ¬ P 40 9) (w40_3 : ¬ P 40 3) (w40_5 : ¬ P 40 5) (w40_7 : ¬ P 40 7) (w40_6 : ¬ P 40 6) (h_M : fr P M0 M) : A (fun r => fr P M0 r.2) (N_readNewOfFactsAndRows M) := by
  unfold N_readNewOfFactsAndRows
  refine A_bind (fz_N_seesName w40_4 w40_8 w40_9 h_M) ?_
  rintro ⟨r_1, M_2⟩ h_M_2
  try dsimp only at h_M_2
  try dsimp only
  refine A_bind (J := (fr P M0)) ?_ ?_
  ·
    refine A_ite (fun _ => ?_) (fun _ => ?_)
    ·
      refine A_bT (fun x => ?_)
      try dsimp only
      refine A_bT (fun x => ?_)
      try dsimp only
      refine A_ite (fun _ => ?_) (fun _ => ?_)
      ·
        refine A_bind (fz_K_fail w40_4 w40_8 w40_9 h_M_2) ?_
        rintro M_14 h_M_14
        try dsimp only at h_M_14
        try dsimp only
        exact A_some h_M_14
      ·
        exact A_some h_M_2
    ·
      exact A_some h_M_2
  rintro M_3 h_M_3
  try dsimp only at h_M_3
  try dsimp only
  refine A_bind (fz_N_takeName w40_3 w40_5 w40_4 w40_7 w40_8 w40_9 w40_6 h_M_3) ?_
  rintro ⟨r_16, M_17⟩ h_M_17
  try dsimp only at h_M_17
  try dsimp only
  exact A_some h_M_17
theorem fz_K_expect {P : Nat → Nat → Prop} {M0 M : Mem} {wanted : Int} (w40_3 : ¬ P 40 3) (w40_5 : ¬ P 40 5) (w40_4 : ¬ P 40 4) (w40_7 : ¬ P 40 7) (w40_8 : ¬ P 40 8) (w40_9 : ¬ P 40 9) (w40_6 : ¬ P 40 6) (h_M : fr P M0 M) : A (fr P M0) (K_expect wanted M) := by
  unfold K_expect
  refine A_ite (fun _ => ?_) (fun _ => ?_)
  ·
    refine A_bind (fz_K_pass w40_3 w40_5 w40_4 w40_7 w40_8 w40_9 w40_6 h_M) ?_
    rintro M_1 h_M_1
    try dsimp only at h_M_1
    try dsimp only
    exact A_some h_M_1
  ·
    refine A_bind (fz_K_fail w40_4 w40_8 w40_9 h_M) ?_
    rintro M_2 h_M_2
    try dsimp only at h_M_2
    try dsimp only
    exact A_some h_M_2
theorem fz_N_readFact {P : Nat → Nat → Prop} {M0 M : Mem}  (w40_3 : ¬ P 40 3) (w40_5 : ¬ P 40 5) (w40_4 : ¬ P 40 4) (w40_7 : ¬ P 40 7) (w40_8 : ¬ P 40 8) (w40_9 : ¬ P 40 9) (w40_6 : ¬ P 40 6) (w32 : ∀ k, ¬ P 32 k) (wT0_0 : ∀ t, isT t → ¬ P t 0) (h_M : fr P M0 M) : A (fr P M0) (N_readFact M) := by
  unfold N_readFact
  refine A_T (fun t_2 ht_2 => ?_)
  refine A_bT (fun x => ?_)
  try dsimp only
  refine A_bind (fz_N_begin w40_3 w40_5 w40_4 w40_7 w40_8 w40_9 w40_6 h_M) ?_
  rintro M_9 h_M_9
  try dsimp only at h_M_9
  try dsimp only
  refine A_bind (fz_N_readNewOfFactsAndRows w40_4 w40_8 w40_9 w40_3 w40_5 w40_7 w40_6 h_M_9) ?_
  rintro ⟨r_10, M_11⟩ h_M_11
  try dsimp only at h_M_11
  try dsimp only
  refine A_bind (fz_K_expect w40_3 w40_5 w40_4 w40_7 w40_8 w40_9 w40_6 h_M_11) ?_
  rintro M_12 h_M_12
  try dsimp only at h_M_12
  try dsimp only
  refine A_ite (fun _ => ?_) (fun _ => ?_)
  ·
    refine A_T (fun t_14 ht_14 => ?_)
    refine A_chk (fun hchk => ?_)
    refine A_ltM (fr_up (w32 _) h_M_12) (fun M_18 h_M_18 => ?_)
    refine A_T (fun t_20 ht_20 => ?_)
    refine A_ltM (fr_up (wT0_0 t_20 ht_20) h_M_18) (fun M_22 h_M_22 => ?_)
    exact A_some h_M_22
  ·
    exact A_some h_M_12
theorem fz_N_readSmall {P : Nat → Nat → Prop} {M0 M : Mem}  (w40_4 : ¬ P 40 4) (w40_8 : ¬ P 40 8) (w40_9 : ¬ P 40 9) (w40_3 : ¬ P 40 3) (w40_5 : ¬ P 40 5) (w40_7 : ¬ P 40 7) (w40_6 : ¬ P 40 6) (h_M : fr P M0 M) : A (fun r => fr P M0 r.2) (N_readSmall M) := by
  unfold N_readSmall
  refine A_bind (J := (fr P M0)) ?_ ?_
  ·
    refine A_ite (fun _ => ?_) (fun _ => ?_)
    ·
      refine A_bind (fz_K_fail w40_4 w40_8 w40_9 h_M) ?_
      rintro M_5 h_M_5
      try dsimp only at h_M_5
      try dsimp only
      exact A_some h_M_5
    ·
      refine A_ite (fun _ => ?_) (fun _ => ?_)
      ·
        refine A_bind (fz_K_fail w40_4 w40_8 w40_9 h_M) ?_
        rintro M_6 h_M_6
        try dsimp only at h_M_6
        try dsimp only
        exact A_some h_M_6
      ·
        exact A_some h_M
  rintro M_1 h_M_1
  try dsimp only at h_M_1
  try dsimp only
  refine A_lt (fun l1_9 => ?_)
  refine A_bind (fz_K_pass w40_3 w40_5 w40_4 w40_7 w40_8 w40_9 w40_6 h_M_1) ?_
  rintro M_10 h_M_10
  try dsimp only at h_M_10
  try dsimp only
  exact A_some h_M_10
theorem fz_N_readFactBit {P : Nat → Nat → Prop} {M0 M : Mem} {known : Int} (w40_4 : ¬ P 40 4) (w40_8 : ¬ P 40 8) (w40_9 : ¬ P 40 9) (w40_3 : ¬ P 40 3) (w40_5 : ¬ P 40 5) (w40_7 : ¬ P 40 7) (w40_6 : ¬ P 40 6) (h_M : fr P M0 M) : A (fun r => fr P M0 r.2) (N_readFactBit known M) := by
  unfold N_readFactBit
  refine A_bind (fz_N_seesName w40_4 w40_8 w40_9 h_M) ?_
  rintro ⟨r_1, M_2⟩ h_M_2
  try dsimp only at h_M_2
  try dsimp only
  refine A_bT (fun x => ?_)
  try dsimp only
  refine A_ite (fun _ => ?_) (fun _ => ?_)
  ·
    refine A_bind (fz_K_fail w40_4 w40_8 w40_9 h_M_2) ?_
    rintro M_9 h_M_9
    try dsimp only at h_M_9
    try dsimp only
    exact A_some h_M_9
  ·
    refine A_bT (fun x => ?_)
    try dsimp only
    refine A_bind (J := (fr P M0)) ?_ ?_
    ·
      refine A_ite (fun _ => ?_) (fun _ => ?_)
      ·
        refine A_bind (fz_K_fail w40_4 w40_8 w40_9 h_M_2) ?_
        rintro M_15 h_M_15
        try dsimp only at h_M_15
        try dsimp only
        exact A_some h_M_15
      ·
        exact A_some h_M_2
    rintro M_11 h_M_11
    try dsimp only at h_M_11
    try dsimp only
    refine A_bind (fz_K_pass w40_3 w40_5 w40_4 w40_7 w40_8 w40_9 w40_6 h_M_11) ?_
    rintro M_17 h_M_17
    try dsimp only at h_M_17
    try dsimp only
    exact A_some h_M_17
theorem fz_N_readKnown_b8 {P : Nat → Nat → Prop} {M0 : Mem}  (w40_4 : ¬ P 40 4) (w40_8 : ¬ P 40 8) (w40_9 : ¬ P 40 9) (w40_3 : ¬ P 40 3) (w40_5 : ¬ P 40 5) (w40_7 : ¬ P 40 7) (w40_6 : ¬ P 40 6) : ∀ x, (fun r => fr P M0 r.2.2) x → A (sK (fun r => fr P M0 r.2.2) (fun r => fr P M0 r.2)) (N_readKnown_b8 x) := by
  rintro ⟨l1_3, l2_4, M_5⟩ h_M_5
  try dsimp only at h_M_5
  unfold N_readKnown_b8
  try dsimp only
  refine A_ite (fun _ => ?_) (fun _ => ?_)
  ·
    refine A_bind (fz_N_readFactBit w40_4 w40_8 w40_9 w40_3 w40_5 w40_7 w40_6 h_M_5) ?_
    rintro ⟨r_14, M_15⟩ h_M_15
    try dsimp only at h_M_15
    try dsimp only
    refine A_lt (fun l1_16 => ?_)
    refine A_lt (fun l2_17 => ?_)
    exact A_some h_M_15
  ·
    exact A_some h_M_5
theorem fz_N_readKnown {P : Nat → Nat → Prop} {M0 M : Mem}  (w40_4 : ¬ P 40 4) (w40_8 : ¬ P 40 8) (w40_9 : ¬ P 40 9) (w40_3 : ¬ P 40 3) (w40_5 : ¬ P 40 5) (w40_7 : ¬ P 40 7) (w40_6 : ¬ P 40 6) (h_M : fr P M0 M) : A (fun r => fr P M0 r.2) (N_readKnown M) := by
  unfold N_readKnown
  refine A_bind (fz_N_readFactBit w40_4 w40_8 w40_9 w40_3 w40_5 w40_7 w40_6 h_M) ?_
  rintro ⟨r_1, M_2⟩ h_M_2
  try dsimp only at h_M_2
  try dsimp only
  refine A_bind (J := (fun r => fr P M0 r.2)) (A_it (I := (fun r => fr P M0 r.2.2)) (fun x hx => fz_N_readKnown_b8 w40_4 w40_8 w40_9 w40_3 w40_5 w40_7 w40_6 x hx) h_M_2) ?_
  rintro ⟨l1_12, M_13⟩ h_M_13
  try dsimp only at h_M_13
  try dsimp only
  exact A_some h_M_13
theorem fz_N_readPerson {P : Nat → Nat → Prop} {M0 M : Mem}  (w40_3 : ¬ P 40 3) (w40_5 : ¬ P 40 5) (w40_4 : ¬ P 40 4) (w40_7 : ¬ P 40 7) (w40_8 : ¬ P 40 8) (w40_9 : ¬ P 40 9) (w40_6 : ¬ P 40 6) (w33 : ∀ k, ¬ P 33 k) (wT1 : ∀ t, isT t → ∀ k, ¬ P (t + 1) k) (wT2 : ∀ t, isT t → ∀ k, ¬ P (t + 2) k) (wT0_1 : ∀ t, isT t → ¬ P t 1) (h_M : fr P M0 M) : A (fr P M0) (N_readPerson M) := by
  unfold N_readPerson
  refine A_T (fun t_2 ht_2 => ?_)
  refine A_bT (fun x => ?_)
  try dsimp only
  refine A_bind (fz_N_begin w40_3 w40_5 w40_4 w40_7 w40_8 w40_9 w40_6 h_M) ?_
  rintro M_9 h_M_9
  try dsimp only at h_M_9
  try dsimp only
  refine A_bind (fz_N_seesName w40_4 w40_8 w40_9 h_M_9) ?_
  rintro ⟨r_10, M_11⟩ h_M_11
  try dsimp only at h_M_11
  try dsimp only
  refine A_bind (J := (fr P M0)) ?_ ?_
  ·
    refine A_bT (fun x => ?_)
    try dsimp only
    refine A_ite (fun _ => ?_) (fun _ => ?_)
    ·
      refine A_bind (fz_K_fail w40_4 w40_8 w40_9 h_M_11) ?_
      rintro M_25 h_M_25
      try dsimp only at h_M_25
      try dsimp only
      exact A_some h_M_25
    ·
      exact A_some h_M_11
  rintro M_12 h_M_12
  try dsimp only at h_M_12
  try dsimp only
  refine A_bind (fz_N_takeName w40_3 w40_5 w40_4 w40_7 w40_8 w40_9 w40_6 h_M_12) ?_
  rintro ⟨r_26, M_27⟩ h_M_27
  try dsimp only at h_M_27
  try dsimp only
  refine A_bind (fz_K_expect w40_3 w40_5 w40_4 w40_7 w40_8 w40_9 w40_6 h_M_27) ?_
  rintro M_28 h_M_28
  try dsimp only at h_M_28
  try dsimp only
  refine A_bind (fz_N_readSmall w40_4 w40_8 w40_9 w40_3 w40_5 w40_7 w40_6 h_M_28) ?_
  rintro ⟨r_29, M_30⟩ h_M_30
  try dsimp only at h_M_30
  try dsimp only
  refine A_bind (J := (fun r => fr P M0 r.2)) ?_ ?_
  ·
    refine A_ite (fun _ => ?_) (fun _ => ?_)
    ·
      refine A_bind (fz_K_pass w40_3 w40_5 w40_4 w40_7 w40_8 w40_9 w40_6 h_M_30) ?_
      rintro M_36 h_M_36
      try dsimp only at h_M_36
      try dsimp only
      refine A_bind (fz_N_readKnown w40_4 w40_8 w40_9 w40_3 w40_5 w40_7 w40_6 h_M_36) ?_
      rintro ⟨r_37, M_38⟩ h_M_38
      try dsimp only at h_M_38
      try dsimp only
      exact A_some h_M_38
    ·
      exact A_some h_M_30
  rintro ⟨l4_31, M_32⟩ h_M_32
  try dsimp only at h_M_32
  try dsimp only
  refine A_bind (fz_K_expect w40_3 w40_5 w40_4 w40_7 w40_8 w40_9 w40_6 h_M_32) ?_
  rintro M_40 h_M_40
  try dsimp only at h_M_40
  try dsimp only
  refine A_ite (fun _ => ?_) (fun _ => ?_)
  ·
    refine A_T (fun t_42 ht_42 => ?_)
    refine A_chk (fun hchk => ?_)
    refine A_ltM (fr_up (w33 _) h_M_40) (fun M_46 h_M_46 => ?_)
    refine A_T (fun t_48 ht_48 => ?_)
    refine A_chk (fun hchk => ?_)
    refine A_ltM (fr_up ((wT1 t_48 ht_48) _) h_M_46) (fun M_52 h_M_52 => ?_)
    refine A_T (fun t_54 ht_54 => ?_)
    refine A_chk (fun hchk => ?_)
    refine A_ltM (fr_up ((wT2 t_54 ht_54) _) h_M_52) (fun M_58 h_M_58 => ?_)
    refine A_T (fun t_60 ht_60 => ?_)
    refine A_ltM (fr_up (wT0_1 t_60 ht_60) h_M_58) (fun M_62 h_M_62 => ?_)
    exact A_some h_M_62
  ·
    exact A_some h_M_40
theorem fz_S_add {P : Nat → Nat → Prop} {M0 M : Mem} {sign : Int} {of_ : Int} (w29 : ∀ k, ¬ P 29 k) (w28_1 : ¬ P 28 1) (h_M : fr P M0 M) : A (fr P M0) (S_add sign of_ M) := by
  unfold S_add
  refine A_ite (fun _ => ?_) (fun _ => ?_)
  ·
    refine A_chk (fun hchk => ?_)
    refine A_ltM (fr_up (w29 _) h_M) (fun M_3 h_M_3 => ?_)
    refine A_ltM (fr_up w28_1 h_M_3) (fun M_4 h_M_4 => ?_)
    exact A_some h_M_4
  ·
    exact A_some h_M
theorem fz_N_takesUnit {P : Nat → Nat → Prop} {M0 M : Mem} {begins : Int} {depth : Int} (w40_4 : ¬ P 40 4) (w40_8 : ¬ P 40 8) (w40_9 : ¬ P 40 9) (wT0_5 : ∀ t, isT t → ¬ P t 5) (h_M : fr P M0 M) : A (fun r => fr P M0 r.2) (N_takesUnit begins depth M) := by
  unfold N_takesUnit
  refine A_bT (fun x => ?_)
  try dsimp only
  refine A_bT (fun x => ?_)
  try dsimp only
  refine A_ite (fun _ => ?_) (fun _ => ?_)
  ·
    refine A_bind (fz_K_fail w40_4 w40_8 w40_9 h_M) ?_
    rintro M_19 h_M_19
    try dsimp only at h_M_19
    try dsimp only
    exact A_some h_M_19
  ·
    refine A_T (fun t_21 ht_21 => ?_)
    refine A_ltM (fr_up (wT0_5 t_21 ht_21) h_M) (fun M_23 h_M_23 => ?_)
    exact A_some h_M_23
theorem fz_N_seePerson {P : Nat → Nat → Prop} {M0 M : Mem}  (w40_4 : ¬ P 40 4) (w40_8 : ¬ P 40 8) (w40_9 : ¬ P 40 9) (h_M : fr P M0 M) : A (fun r => fr P M0 r.2) (N_seePerson M) := by
  unfold N_seePerson
  refine A_bind (fz_N_seesName w40_4 w40_8 w40_9 h_M) ?_
  rintro ⟨r_1, M_2⟩ h_M_2
  try dsimp only at h_M_2
  try dsimp only
  refine A_bT (fun x => ?_)
  try dsimp only
  refine A_bind (J := (fr P M0)) ?_ ?_
  ·
    refine A_ite (fun _ => ?_) (fun _ => ?_)
    ·
      refine A_bind (fz_K_fail w40_4 w40_8 w40_9 h_M_2) ?_
      rintro M_16 h_M_16
      try dsimp only at h_M_16
      try dsimp only
      exact A_some h_M_16
    ·
      exact A_some h_M_2
  rintro M_12 h_M_12
  try dsimp only at h_M_12
  try dsimp only
  exact A_some h_M_12
theorem fz_N_readBoth_b7 {P : Nat → Nat → Prop} {M0 : Mem} {rec_ : Int → Mem → Option (Mem)} {depth : Int} (w40_3 : ¬ P 40 3) (w40_5 : ¬ P 40 5) (w40_4 : ¬ P 40 4) (w40_7 : ¬ P 40 7) (w40_8 : ¬ P 40 8) (w40_9 : ¬ P 40 9) (w40_6 : ¬ P 40 6) (w29 : ∀ k, ¬ P 29 k) (w28_1 : ¬ P 28 1) (hrec : ∀ (y0 : Int) (M : Mem), fr P M0 M → A (fr P M0) (rec_ y0 M)) : ∀ x, (fun r => fr P M0 r.2) x → A (sK (fun r => fr P M0 r.2) (fr P M0)) (N_readBoth_b7 rec_ depth x) := by
  rintro ⟨l2_2, M_3⟩ h_M_3
  try dsimp only at h_M_3
  unfold N_readBoth_b7
  try dsimp only
  refine A_ite (fun _ => ?_) (fun _ => ?_)
  ·
    refine A_bind (fz_K_pass w40_3 w40_5 w40_4 w40_7 w40_8 w40_9 w40_6 h_M_3) ?_
    rintro M_11 h_M_11
    try dsimp only at h_M_11
    try dsimp only
    refine A_bind (hrec _ _ h_M_11) ?_
    rintro M_12 h_M_12
    try dsimp only at h_M_12
    try dsimp only
    refine A_bind (fz_S_add w29 w28_1 h_M_12) ?_
    rintro M_13 h_M_13
    try dsimp only at h_M_13
    try dsimp only
    refine A_lt (fun l2_14 => ?_)
    exact A_some h_M_13
  ·
    exact A_some h_M_3
theorem fz_N_readBoth {P : Nat → Nat → Prop} {M0 M : Mem} {rec_ : Int → Mem → Option (Mem)} {depth : Int} (w40_3 : ¬ P 40 3) (w40_5 : ¬ P 40 5) (w40_4 : ¬ P 40 4) (w40_7 : ¬ P 40 7) (w40_8 : ¬ P 40 8) (w40_9 : ¬ P 40 9) (w40_6 : ¬ P 40 6) (w29 : ∀ k, ¬ P 29 k) (w28_1 : ¬ P 28 1) (hrec : ∀ (y0 : Int) (M : Mem), fr P M0 M → A (fr P M0) (rec_ y0 M)) (h_M : fr P M0 M) : A (fr P M0) (N_readBoth rec_ depth M) := by
  unfold N_readBoth
  refine A_bind (hrec _ _ h_M) ?_
  rintro M_1 h_M_1
  try dsimp only at h_M_1
  try dsimp only
  refine A_bind (J := (fr P M0)) (A_it (I := (fun r => fr P M0 r.2)) (fun x hx => fz_N_readBoth_b7 w40_3 w40_5 w40_4 w40_7 w40_8 w40_9 w40_6 w29 w28_1 hrec x hx) h_M_1) ?_
  rintro M_10 h_M_10
  try dsimp only at h_M_10
  try dsimp only
  exact A_some h_M_10
theorem fz_N_readAlt_b7 {P : Nat → Nat → Prop} {M0 : Mem} {rec_ : Int → Mem → Option (Mem)} {depth : Int} (w40_3 : ¬ P 40 3) (w40_5 : ¬ P 40 5) (w40_4 : ¬ P 40 4) (w40_7 : ¬ P 40 7) (w40_8 : ¬ P 40 8) (w40_9 : ¬ P 40 9) (w40_6 : ¬ P 40 6) (w29 : ∀ k, ¬ P 29 k) (w28_1 : ¬ P 28 1) (hrec : ∀ (y0 : Int) (M : Mem), fr P M0 M → A (fr P M0) (rec_ y0 M)) : ∀ x, (fun r => fr P M0 r.2) x → A (sK (fun r => fr P M0 r.2) (fr P M0)) (N_readAlt_b7 rec_ depth x) := by
  rintro ⟨l2_2, M_3⟩ h_M_3
  try dsimp only at h_M_3
  unfold N_readAlt_b7
  try dsimp only
  refine A_ite (fun _ => ?_) (fun _ => ?_)
  ·
    refine A_bind (fz_K_pass w40_3 w40_5 w40_4 w40_7 w40_8 w40_9 w40_6 h_M_3) ?_
    rintro M_11 h_M_11
    try dsimp only at h_M_11
    try dsimp only
    refine A_bind (fz_N_readBoth w40_3 w40_5 w40_4 w40_7 w40_8 w40_9 w40_6 w29 w28_1 hrec h_M_11) ?_
    rintro M_12 h_M_12
    try dsimp only at h_M_12
    try dsimp only
    refine A_bind (fz_S_add w29 w28_1 h_M_12) ?_
    rintro M_13 h_M_13
    try dsimp only at h_M_13
    try dsimp only
    refine A_lt (fun l2_14 => ?_)
    exact A_some h_M_13
  ·
    exact A_some h_M_3
theorem fz_N_readAlt {P : Nat → Nat → Prop} {M0 M : Mem} {rec_ : Int → Mem → Option (Mem)} {depth : Int} (w40_3 : ¬ P 40 3) (w40_5 : ¬ P 40 5) (w40_4 : ¬ P 40 4) (w40_7 : ¬ P 40 7) (w40_8 : ¬ P 40 8) (w40_9 : ¬ P 40 9) (w40_6 : ¬ P 40 6) (w29 : ∀ k, ¬ P 29 k) (w28_1 : ¬ P 28 1) (hrec : ∀ (y0 : Int) (M : Mem), fr P M0 M → A (fr P M0) (rec_ y0 M)) (h_M : fr P M0 M) : A (fr P M0) (N_readAlt rec_ depth M) := by
  unfold N_readAlt
  refine A_bind (fz_N_readBoth w40_3 w40_5 w40_4 w40_7 w40_8 w40_9 w40_6 w29 w28_1 hrec h_M) ?_
  rintro M_1 h_M_1
  try dsimp only at h_M_1
  try dsimp only
  refine A_bind (J := (fr P M0)) (A_it (I := (fun r => fr P M0 r.2)) (fun x hx => fz_N_readAlt_b7 w40_3 w40_5 w40_4 w40_7 w40_8 w40_9 w40_6 w29 w28_1 hrec x hx) h_M_1) ?_
  rintro M_10 h_M_10
  try dsimp only at h_M_10
  try dsimp only
  exact A_some h_M_10
theorem fz_N_readE {P : Nat → Nat → Prop} {M0 M : Mem} {rec_ : Int → Mem → Option (Mem)} {depth : Int} (w40_3 : ¬ P 40 3) (w40_5 : ¬ P 40 5) (w40_4 : ¬ P 40 4) (w40_7 : ¬ P 40 7) (w40_8 : ¬ P 40 8) (w40_9 : ¬ P 40 9) (w40_6 : ¬ P 40 6) (w29 : ∀ k, ¬ P 29 k) (w28_1 : ¬ P 28 1) (hrec : ∀ (y0 : Int) (M : Mem), fr P M0 M → A (fr P M0) (rec_ y0 M)) (h_M : fr P M0 M) : A (fr P M0) (N_readE rec_ depth M) := by
  unfold N_readE
  refine A_bind (fz_N_readAlt w40_3 w40_5 w40_4 w40_7 w40_8 w40_9 w40_6 w29 w28_1 hrec h_M) ?_
  rintro M_1 h_M_1
  try dsimp only at h_M_1
  try dsimp only
  refine A_ite (fun _ => ?_) (fun _ => ?_)
  ·
    refine A_bind (fz_K_pass w40_3 w40_5 w40_4 w40_7 w40_8 w40_9 w40_6 h_M_1) ?_
    rintro M_2 h_M_2
    try dsimp only at h_M_2
    try dsimp only
    refine A_bind (fz_N_readAlt w40_3 w40_5 w40_4 w40_7 w40_8 w40_9 w40_6 w29 w28_1 hrec h_M_2) ?_
    rintro M_3 h_M_3
    try dsimp only at h_M_3
    try dsimp only
    refine A_bind (fz_S_add w29 w28_1 h_M_3) ?_
    rintro M_4 h_M_4
    try dsimp only at h_M_4
    try dsimp only
    exact A_some h_M_4
  ·
    exact A_some h_M_1
theorem fz_N_readUnit {P : Nat → Nat → Prop} {M0 M : Mem} {rec_ : Int → Mem → Option (Mem)} {depth : Int} (w40_4 : ¬ P 40 4) (w40_8 : ¬ P 40 8) (w40_9 : ¬ P 40 9) (wT0_5 : ∀ t, isT t → ¬ P t 5) (w40_3 : ¬ P 40 3) (w40_5 : ¬ P 40 5) (w40_7 : ¬ P 40 7) (w40_6 : ¬ P 40 6) (w29 : ∀ k, ¬ P 29 k) (w28_1 : ¬ P 28 1) (w27_15 : ¬ P 27 15) (hrec : ∀ (y0 : Int) (M : Mem), fr P M0 M → A (fr P M0) (rec_ y0 M)) (h_M : fr P M0 M) : A (fr P M0) (N_readUnit rec_ depth M) := by
  unfold N_readUnit
  refine A_bT (fun x => ?_)
  try dsimp only
  refine A_bT (fun x => ?_)
  try dsimp only
  refine A_bind (fz_N_takesUnit w40_4 w40_8 w40_9 wT0_5 h_M) ?_
  rintro ⟨r_16, M_17⟩ h_M_17
  try dsimp only at h_M_17
  try dsimp only
  refine A_ite (fun _ => ?_) (fun _ => ?_)
  ·
    exact A_some h_M_17
  ·
    refine A_ite (fun _ => ?_) (fun _ => ?_)
    ·
      refine A_bind (fz_K_pass w40_3 w40_5 w40_4 w40_7 w40_8 w40_9 w40_6 h_M_17) ?_
      rintro M_18 h_M_18
      try dsimp only at h_M_18
      try dsimp only
      refine A_bind (fz_N_readE w40_3 w40_5 w40_4 w40_7 w40_8 w40_9 w40_6 w29 w28_1 hrec h_M_18) ?_
      rintro M_19 h_M_19
      try dsimp only at h_M_19
      try dsimp only
      refine A_bind (fz_K_expect w40_3 w40_5 w40_4 w40_7 w40_8 w40_9 w40_6 h_M_19) ?_
      rintro M_20 h_M_20
      try dsimp only at h_M_20
      try dsimp only
      exact A_some h_M_20
    ·
      refine A_bT (fun x => ?_)
      try dsimp only
      refine A_bT (fun x => ?_)
      try dsimp only
      refine A_bind (J := (fr P M0)) ?_ ?_
      ·
        refine A_ite (fun _ => ?_) (fun _ => ?_)
        ·
          refine A_bind (fz_S_add w29 w28_1 h_M_17) ?_
          rintro M_27 h_M_27
          try dsimp only at h_M_27
          try dsimp only
          exact A_some h_M_27
        ·
          refine A_jn (J := fr P M0) (fun M_28 h_M_28 => ?_) (fun j_29 hj_29 => ?_)
          ·
            refine A_bind (fz_K_fail w40_4 w40_8 w40_9 h_M_28) ?_
            rintro M_45 h_M_45
            try dsimp only at h_M_45
            try dsimp only
            exact A_some h_M_45
          refine A_ite (fun _ => ?_) (fun _ => ?_)
          ·
            refine A_bT (fun x => ?_)
            try dsimp only
            refine A_ite (fun _ => ?_) (fun _ => ?_)
            ·
              refine A_chk (fun hchk => ?_)
              refine A_chk (fun hchk => ?_)
              refine A_ltM (fr_up w27_15 h_M_17) (fun M_42 h_M_42 => ?_)
              refine A_bind (fz_S_add w29 w28_1 h_M_42) ?_
              rintro M_43 h_M_43
              try dsimp only at h_M_43
              try dsimp only
              exact A_some h_M_43
            ·
              exact hj_29 _ h_M_17
          ·
            exact hj_29 _ h_M_17
      rintro M_23 h_M_23
      try dsimp only at h_M_23
      try dsimp only
      refine A_bind (fz_K_pass w40_3 w40_5 w40_4 w40_7 w40_8 w40_9 w40_6 h_M_23) ?_
      rintro M_47 h_M_47
      try dsimp only at h_M_47
      try dsimp only
      exact A_some h_M_47
theorem fz_N_readOne_s {P : Nat → Nat → Prop} {M0 M : Mem} {rec_ : Int → Mem → Option (Mem)} {depth : Int} (w40_4 : ¬ P 40 4) (w40_8 : ¬ P 40 8) (w40_9 : ¬ P 40 9) (wT0_5 : ∀ t, isT t → ¬ P t 5) (w40_3 : ¬ P 40 3) (w40_5 : ¬ P 40 5) (w40_7 : ¬ P 40 7) (w40_6 : ¬ P 40 6) (w29 : ∀ k, ¬ P 29 k) (w28_1 : ¬ P 28 1) (w27_15 : ¬ P 27 15) (hrec : ∀ (y0 : Int) (M : Mem), fr P M0 M → A (fr P M0) (rec_ y0 M)) (h_M : fr P M0 M) : A (fr P M0) (N_readOne_s rec_ depth M) := by
  unfold N_readOne_s
  refine A_lt (fun l2_1 => ?_)
  refine A_bT (fun x => ?_)
  try dsimp only
  refine A_ite (fun _ => ?_) (fun _ => ?_)
  ·
    refine A_bind (fz_N_readUnit w40_4 w40_8 w40_9 wT0_5 w40_3 w40_5 w40_7 w40_6 w29 w28_1 w27_15 hrec h_M) ?_
    rintro M_12 h_M_12
    try dsimp only at h_M_12
    try dsimp only
    exact A_some h_M_12
  ·
    refine A_jn (J := fr P M0) (fun M_13 h_M_13 => ?_) (fun j_14 hj_14 => ?_)
    ·
      refine A_bind (fz_K_fail w40_4 w40_8 w40_9 h_M_13) ?_
      rintro M_37 h_M_37
      try dsimp only at h_M_37
      try dsimp only
      exact A_some h_M_37
    refine A_ite (fun _ => ?_) (fun _ => ?_)
    ·
      refine A_ite (fun _ => ?_) (fun _ => ?_)
      ·
        exact hj_14 _ h_M
      ·
        refine A_bind (fz_K_pass w40_3 w40_5 w40_4 w40_7 w40_8 w40_9 w40_6 h_M) ?_
        rintro M_17 h_M_17
        try dsimp only at h_M_17
        try dsimp only
        refine A_bind (J := (fun r => fr P M0 r.2)) ?_ ?_
        ·
          refine A_ite (fun _ => ?_) (fun _ => ?_)
          ·
            refine A_ltM (fr_up w27_15 h_M_17) (fun M_23 h_M_23 => ?_)
            refine A_bind (fz_N_seePerson w40_4 w40_8 w40_9 h_M_23) ?_
            rintro ⟨r_24, M_25⟩ h_M_25
            try dsimp only at h_M_25
            try dsimp only
            refine A_bind (fz_K_pass w40_3 w40_5 w40_4 w40_7 w40_8 w40_9 w40_6 h_M_25) ?_
            rintro M_26 h_M_26
            try dsimp only at h_M_26
            try dsimp only
            exact A_some h_M_26
          ·
            exact A_some h_M_17
        rintro ⟨l4_18, M_19⟩ h_M_19
        try dsimp only at h_M_19
        try dsimp only
        refine A_bind (hrec _ _ h_M_19) ?_
        rintro M_28 h_M_28
        try dsimp only at h_M_28
        try dsimp only
        refine A_bind (fz_S_add w29 w28_1 h_M_28) ?_
        rintro M_29 h_M_29
        try dsimp only at h_M_29
        try dsimp only
        exact A_some h_M_29
    ·
      exact hj_14 _ h_M
theorem fz_N_readOne {P : Nat → Nat → Prop} {M0 : Mem} (w40_4 : ¬ P 40 4) (w40_8 : ¬ P 40 8) (w40_9 : ¬ P 40 9) (wT0_5 : ∀ t, isT t → ¬ P t 5) (w40_3 : ¬ P 40 3) (w40_5 : ¬ P 40 5) (w40_7 : ¬ P 40 7) (w40_6 : ¬ P 40 6) (w29 : ∀ k, ¬ P 29 k) (w28_1 : ¬ P 28 1) (w27_15 : ¬ P 27 15) : ∀ (d : Nat) (x0 : Int) {M : Mem}, fr P M0 M → A (fr P M0) (N_readOne d x0 M)
  | 0, _, _, _ => A_none
  | d + 1, _, _, h => fz_N_readOne_s w40_4 w40_8 w40_9 wT0_5 w40_3 w40_5 w40_7 w40_6 w29 w28_1 w27_15 (fun _ _ h => fz_N_readOne w40_4 w40_8 w40_9 wT0_5 w40_3 w40_5 w40_7 w40_6 w29 w28_1 w27_15 d _ h) h
theorem fz_N_readRow {P : Nat → Nat → Prop} {M0 M : Mem}  (w40_3 : ¬ P 40 3) (w40_5 : ¬ P 40 5) (w40_4 : ¬ P 40 4) (w40_7 : ¬ P 40 7) (w40_8 : ¬ P 40 8) (w40_9 : ¬ P 40 9) (w40_6 : ¬ P 40 6) (w27_14 : ¬ P 27 14) (w27_15 : ¬ P 27 15) (w29 : ∀ k, ¬ P 29 k) (w28_1 : ¬ P 28 1) (wT0_5 : ∀ t, isT t → ¬ P t 5) (w34 : ∀ k, ¬ P 34 k) (w35 : ∀ k, ¬ P 35 k) (w36 : ∀ k, ¬ P 36 k) (w37 : ∀ k, ¬ P 37 k) (wT0_2 : ∀ t, isT t → ¬ P t 2) (h_M : fr P M0 M) : A (fr P M0) (N_readRow M) := by
  unfold N_readRow
  refine A_T (fun t_2 ht_2 => ?_)
  refine A_bT (fun x => ?_)
  try dsimp only
  refine A_bind (fz_N_begin w40_3 w40_5 w40_4 w40_7 w40_8 w40_9 w40_6 h_M) ?_
  rintro M_9 h_M_9
  try dsimp only at h_M_9
  try dsimp only
  refine A_bind (fz_N_readNewOfFactsAndRows w40_4 w40_8 w40_9 w40_3 w40_5 w40_7 w40_6 h_M_9) ?_
  rintro ⟨r_10, M_11⟩ h_M_11
  try dsimp only at h_M_11
  try dsimp only
  refine A_lt (fun l3_12 => ?_)
  refine A_ltM (fr_up w27_14 h_M_11) (fun M_13 h_M_13 => ?_)
  refine A_ltM (fr_up w27_15 h_M_13) (fun M_14 h_M_14 => ?_)
  refine A_bind (fz_N_readE w40_3 w40_5 w40_4 w40_7 w40_8 w40_9 w40_6 w29 w28_1 (fun x0 M h => fz_N_readOne w40_4 w40_8 w40_9 wT0_5 w40_3 w40_5 w40_7 w40_6 w29 w28_1 w27_15 10 _ h) h_M_14) ?_
  rintro M_15 h_M_15
  try dsimp only at h_M_15
  try dsimp only
  refine A_lt (fun l4_16 => ?_)
  refine A_bind (fz_K_expect w40_3 w40_5 w40_4 w40_7 w40_8 w40_9 w40_6 h_M_15) ?_
  rintro M_17 h_M_17
  try dsimp only at h_M_17
  try dsimp only
  refine A_ite (fun _ => ?_) (fun _ => ?_)
  ·
    refine A_T (fun t_19 ht_19 => ?_)
    refine A_chk (fun hchk => ?_)
    refine A_ltM (fr_up (w34 _) h_M_17) (fun M_23 h_M_23 => ?_)
    refine A_T (fun t_25 ht_25 => ?_)
    refine A_chk (fun hchk => ?_)
    refine A_ltM (fr_up (w35 _) h_M_23) (fun M_29 h_M_29 => ?_)
    refine A_T (fun t_31 ht_31 => ?_)
    refine A_chk (fun hchk => ?_)
    refine A_ltM (fr_up (w36 _) h_M_29) (fun M_35 h_M_35 => ?_)
    refine A_T (fun t_37 ht_37 => ?_)
    refine A_chk (fun hchk => ?_)
    refine A_chk (fun hchk => ?_)
    refine A_ltM (fr_up (w37 _) h_M_35) (fun M_42 h_M_42 => ?_)
    refine A_T (fun t_44 ht_44 => ?_)
    refine A_ltM (fr_up (wT0_2 t_44 ht_44) h_M_42) (fun M_46 h_M_46 => ?_)
    exact A_some h_M_46
  ·
    exact A_some h_M_17
theorem fz_N_readAlways {P : Nat → Nat → Prop} {M0 M : Mem}  (w40_3 : ¬ P 40 3) (w40_5 : ¬ P 40 5) (w40_4 : ¬ P 40 4) (w40_7 : ¬ P 40 7) (w40_8 : ¬ P 40 8) (w40_9 : ¬ P 40 9) (w40_6 : ¬ P 40 6) (w27_14 : ¬ P 27 14) (w29 : ∀ k, ¬ P 29 k) (w28_1 : ¬ P 28 1) (wT0_5 : ∀ t, isT t → ¬ P t 5) (w27_15 : ¬ P 27 15) (w38 : ∀ k, ¬ P 38 k) (w39 : ∀ k, ¬ P 39 k) (w27_10 : ¬ P 27 10) (h_M : fr P M0 M) : A (fr P M0) (N_readAlways M) := by
  unfold N_readAlways
  refine A_bT (fun x => ?_)
  try dsimp only
  refine A_bind (fz_N_begin w40_3 w40_5 w40_4 w40_7 w40_8 w40_9 w40_6 h_M) ?_
  rintro M_6 h_M_6
  try dsimp only at h_M_6
  try dsimp only
  refine A_lt (fun l1_7 => ?_)
  refine A_ltM (fr_up w27_14 h_M_6) (fun M_8 h_M_8 => ?_)
  refine A_bind (fz_N_readE w40_3 w40_5 w40_4 w40_7 w40_8 w40_9 w40_6 w29 w28_1 (fun x0 M h => fz_N_readOne w40_4 w40_8 w40_9 wT0_5 w40_3 w40_5 w40_7 w40_6 w29 w28_1 w27_15 10 _ h) h_M_8) ?_
  rintro M_9 h_M_9
  try dsimp only at h_M_9
  try dsimp only
  refine A_lt (fun l2_10 => ?_)
  refine A_bind (fz_K_expect w40_3 w40_5 w40_4 w40_7 w40_8 w40_9 w40_6 h_M_9) ?_
  rintro M_11 h_M_11
  try dsimp only at h_M_11
  try dsimp only
  refine A_ite (fun _ => ?_) (fun _ => ?_)
  ·
    refine A_chk (fun hchk => ?_)
    refine A_ltM (fr_up (w38 _) h_M_11) (fun M_14 h_M_14 => ?_)
    refine A_chk (fun hchk => ?_)
    refine A_ltM (fr_up (w39 _) h_M_14) (fun M_17 h_M_17 => ?_)
    refine A_ltM (fr_up w27_10 h_M_17) (fun M_18 h_M_18 => ?_)
    exact A_some h_M_18
  ·
    exact A_some h_M_11
theorem fz_N_readTie {P : Nat → Nat → Prop} {M0 M : Mem}  (w40_3 : ¬ P 40 3) (w40_5 : ¬ P 40 5) (w40_4 : ¬ P 40 4) (w40_7 : ¬ P 40 7) (w40_8 : ¬ P 40 8) (w40_9 : ¬ P 40 9) (w40_6 : ¬ P 40 6) (wT4 : ∀ t, isT t → ∀ k, ¬ P (t + 4) k) (wT5 : ∀ t, isT t → ∀ k, ¬ P (t + 5) k) (wT6 : ∀ t, isT t → ∀ k, ¬ P (t + 6) k) (wT3 : ∀ t, isT t → ∀ k, ¬ P (t + 3) k) (wT0_3 : ∀ t, isT t → ¬ P t 3) (h_M : fr P M0 M) : A (fr P M0) (N_readTie M) := by
  unfold N_readTie
  refine A_T (fun t_2 ht_2 => ?_)
  refine A_bT (fun x => ?_)
  try dsimp only
  refine A_bind (fz_N_begin w40_3 w40_5 w40_4 w40_7 w40_8 w40_9 w40_6 h_M) ?_
  rintro M_9 h_M_9
  try dsimp only at h_M_9
  try dsimp only
  refine A_bind (fz_N_seePerson w40_4 w40_8 w40_9 h_M_9) ?_
  rintro ⟨r_10, M_11⟩ h_M_11
  try dsimp only at h_M_11
  try dsimp only
  refine A_bind (fz_K_pass w40_3 w40_5 w40_4 w40_7 w40_8 w40_9 w40_6 h_M_11) ?_
  rintro M_12 h_M_12
  try dsimp only at h_M_12
  try dsimp only
  refine A_bind (fz_N_seePerson w40_4 w40_8 w40_9 h_M_12) ?_
  rintro ⟨r_13, M_14⟩ h_M_14
  try dsimp only at h_M_14
  try dsimp only
  refine A_bind (J := (fr P M0)) ?_ ?_
  ·
    refine A_ite (fun _ => ?_) (fun _ => ?_)
    ·
      refine A_bT (fun x => ?_)
      try dsimp only
      refine A_ite (fun _ => ?_) (fun _ => ?_)
      ·
        refine A_bind (fz_K_fail w40_4 w40_8 w40_9 h_M_14) ?_
        rintro M_30 h_M_30
        try dsimp only at h_M_30
        try dsimp only
        exact A_some h_M_30
      ·
        exact A_some h_M_14
    ·
      exact A_some h_M_14
  rintro M_15 h_M_15
  try dsimp only at h_M_15
  try dsimp only
  refine A_bind (fz_K_pass w40_3 w40_5 w40_4 w40_7 w40_8 w40_9 w40_6 h_M_15) ?_
  rintro M_37 h_M_37
  try dsimp only at h_M_37
  try dsimp only
  refine A_bind (fz_K_expect w40_3 w40_5 w40_4 w40_7 w40_8 w40_9 w40_6 h_M_37) ?_
  rintro M_38 h_M_38
  try dsimp only at h_M_38
  try dsimp only
  refine A_bind (fz_N_readSmall w40_4 w40_8 w40_9 w40_3 w40_5 w40_7 w40_6 h_M_38) ?_
  rintro ⟨r_39, M_40⟩ h_M_40
  try dsimp only at h_M_40
  try dsimp only
  refine A_bind (fz_K_expect w40_3 w40_5 w40_4 w40_7 w40_8 w40_9 w40_6 h_M_40) ?_
  rintro M_41 h_M_41
  try dsimp only at h_M_41
  try dsimp only
  refine A_ite (fun _ => ?_) (fun _ => ?_)
  ·
    refine A_T (fun t_43 ht_43 => ?_)
    refine A_chk (fun hchk => ?_)
    refine A_ltM (fr_up ((wT4 t_43 ht_43) _) h_M_41) (fun M_47 h_M_47 => ?_)
    refine A_T (fun t_49 ht_49 => ?_)
    refine A_chk (fun hchk => ?_)
    refine A_ltM (fr_up ((wT5 t_49 ht_49) _) h_M_47) (fun M_53 h_M_53 => ?_)
    refine A_T (fun t_55 ht_55 => ?_)
    refine A_chk (fun hchk => ?_)
    refine A_ltM (fr_up ((wT6 t_55 ht_55) _) h_M_53) (fun M_59 h_M_59 => ?_)
    refine A_T (fun t_61 ht_61 => ?_)
    refine A_chk (fun hchk => ?_)
    refine A_ltM (fr_up ((wT3 t_61 ht_61) _) h_M_59) (fun M_65 h_M_65 => ?_)
    refine A_T (fun t_67 ht_67 => ?_)
    refine A_chk (fun hchk => ?_)
    refine A_ltM (fr_up ((wT3 t_67 ht_67) _) h_M_65) (fun M_71 h_M_71 => ?_)
    refine A_T (fun t_73 ht_73 => ?_)
    refine A_ltM (fr_up (wT0_3 t_73 ht_73) h_M_71) (fun M_75 h_M_75 => ?_)
    exact A_some h_M_75
  ·
    exact A_some h_M_41
theorem fz_N_readWish {P : Nat → Nat → Prop} {M0 M : Mem}  (w40_3 : ¬ P 40 3) (w40_5 : ¬ P 40 5) (w40_4 : ¬ P 40 4) (w40_7 : ¬ P 40 7) (w40_8 : ¬ P 40 8) (w40_9 : ¬ P 40 9) (w40_6 : ¬ P 40 6) (wT7 : ∀ t, isT t → ∀ k, ¬ P (t + 7) k) (wT0_4 : ∀ t, isT t → ¬ P t 4) (h_M : fr P M0 M) : A (fr P M0) (N_readWish M) := by
  unfold N_readWish
  refine A_T (fun t_2 ht_2 => ?_)
  refine A_bT (fun x => ?_)
  try dsimp only
  refine A_bind (fz_N_begin w40_3 w40_5 w40_4 w40_7 w40_8 w40_9 w40_6 h_M) ?_
  rintro M_9 h_M_9
  try dsimp only at h_M_9
  try dsimp only
  refine A_bind (fz_N_seePerson w40_4 w40_8 w40_9 h_M_9) ?_
  rintro ⟨r_10, M_11⟩ h_M_11
  try dsimp only at h_M_11
  try dsimp only
  refine A_bind (fz_K_pass w40_3 w40_5 w40_4 w40_7 w40_8 w40_9 w40_6 h_M_11) ?_
  rintro M_12 h_M_12
  try dsimp only at h_M_12
  try dsimp only
  refine A_bind (fz_N_seesName w40_4 w40_8 w40_9 h_M_12) ?_
  rintro ⟨r_13, M_14⟩ h_M_14
  try dsimp only at h_M_14
  try dsimp only
  refine A_bT (fun x => ?_)
  try dsimp only
  refine A_bind (J := (fr P M0)) ?_ ?_
  ·
    refine A_ite (fun _ => ?_) (fun _ => ?_)
    ·
      refine A_bind (fz_K_fail w40_4 w40_8 w40_9 h_M_14) ?_
      rintro M_25 h_M_25
      try dsimp only at h_M_25
      try dsimp only
      exact A_some h_M_25
    ·
      refine A_bT (fun x => ?_)
      try dsimp only
      refine A_ite (fun _ => ?_) (fun _ => ?_)
      ·
        refine A_bind (fz_K_fail w40_4 w40_8 w40_9 h_M_14) ?_
        rintro M_36 h_M_36
        try dsimp only at h_M_36
        try dsimp only
        exact A_some h_M_36
      ·
        exact A_some h_M_14
  rintro M_21 h_M_21
  try dsimp only at h_M_21
  try dsimp only
  refine A_bind (fz_K_pass w40_3 w40_5 w40_4 w40_7 w40_8 w40_9 w40_6 h_M_21) ?_
  rintro M_38 h_M_38
  try dsimp only at h_M_38
  try dsimp only
  refine A_bind (fz_K_expect w40_3 w40_5 w40_4 w40_7 w40_8 w40_9 w40_6 h_M_38) ?_
  rintro M_39 h_M_39
  try dsimp only at h_M_39
  try dsimp only
  refine A_bind (fz_N_readSmall w40_4 w40_8 w40_9 w40_3 w40_5 w40_7 w40_6 h_M_39) ?_
  rintro ⟨r_40, M_41⟩ h_M_41
  try dsimp only at h_M_41
  try dsimp only
  refine A_bind (fz_K_expect w40_3 w40_5 w40_4 w40_7 w40_8 w40_9 w40_6 h_M_41) ?_
  rintro M_42 h_M_42
  try dsimp only at h_M_42
  try dsimp only
  refine A_ite (fun _ => ?_) (fun _ => ?_)
  ·
    refine A_T (fun t_44 ht_44 => ?_)
    refine A_chk (fun hchk => ?_)
    refine A_ltM (fr_up ((wT7 t_44 ht_44) _) h_M_42) (fun M_48 h_M_48 => ?_)
    refine A_T (fun t_50 ht_50 => ?_)
    refine A_ltM (fr_up (wT0_4 t_50 ht_50) h_M_48) (fun M_52 h_M_52 => ?_)
    exact A_some h_M_52
  ·
    exact A_some h_M_42
theorem fz_N_readSum_b7 {P : Nat → Nat → Prop} {M0 : Mem} {rec_ : Int → Mem → Option (Mem)} {depth : Int} (w40_3 : ¬ P 40 3) (w40_5 : ¬ P 40 5) (w40_4 : ¬ P 40 4) (w40_7 : ¬ P 40 7) (w40_8 : ¬ P 40 8) (w40_9 : ¬ P 40 9) (w40_6 : ¬ P 40 6) (w29 : ∀ k, ¬ P 29 k) (w28_1 : ¬ P 28 1) (hrec : ∀ (y0 : Int) (M : Mem), fr P M0 M → A (fr P M0) (rec_ y0 M)) : ∀ x, (fun r => fr P M0 r.2) x → A (sK (fun r => fr P M0 r.2) (fr P M0)) (N_readSum_b7 rec_ depth x) := by
  rintro ⟨l2_2, M_3⟩ h_M_3
  try dsimp only at h_M_3
  unfold N_readSum_b7
  try dsimp only
  refine A_ite (fun _ => ?_) (fun _ => ?_)
  ·
    refine A_ite (fun _ => ?_) (fun _ => ?_)
    ·
      refine A_lt (fun l3_11 => ?_)
      refine A_bind (fz_K_pass w40_3 w40_5 w40_4 w40_7 w40_8 w40_9 w40_6 h_M_3) ?_
      rintro M_12 h_M_12
      try dsimp only at h_M_12
      try dsimp only
      refine A_bind (hrec _ _ h_M_12) ?_
      rintro M_13 h_M_13
      try dsimp only at h_M_13
      try dsimp only
      refine A_bind (fz_S_add w29 w28_1 h_M_13) ?_
      rintro M_14 h_M_14
      try dsimp only at h_M_14
      try dsimp only
      refine A_lt (fun l2_15 => ?_)
      exact A_some h_M_14
    ·
      exact A_some h_M_3
  ·
    exact A_some h_M_3
theorem fz_N_readSum {P : Nat → Nat → Prop} {M0 M : Mem} {rec_ : Int → Mem → Option (Mem)} {depth : Int} (w40_3 : ¬ P 40 3) (w40_5 : ¬ P 40 5) (w40_4 : ¬ P 40 4) (w40_7 : ¬ P 40 7) (w40_8 : ¬ P 40 8) (w40_9 : ¬ P 40 9) (w40_6 : ¬ P 40 6) (w29 : ∀ k, ¬ P 29 k) (w28_1 : ¬ P 28 1) (hrec : ∀ (y0 : Int) (M : Mem), fr P M0 M → A (fr P M0) (rec_ y0 M)) (h_M : fr P M0 M) : A (fr P M0) (N_readSum rec_ depth M) := by
  unfold N_readSum
  refine A_bind (hrec _ _ h_M) ?_
  rintro M_1 h_M_1
  try dsimp only at h_M_1
  try dsimp only
  refine A_bind (J := (fr P M0)) (A_it (I := (fun r => fr P M0 r.2)) (fun x hx => fz_N_readSum_b7 w40_3 w40_5 w40_4 w40_7 w40_8 w40_9 w40_6 w29 w28_1 hrec x hx) h_M_1) ?_
  rintro M_10 h_M_10
  try dsimp only at h_M_10
  try dsimp only
  exact A_some h_M_10
theorem fz_N_readAny {P : Nat → Nat → Prop} {M0 M : Mem} {rec_ : Int → Mem → Option (Mem)} {depth : Int} (w40_3 : ¬ P 40 3) (w40_5 : ¬ P 40 5) (w40_4 : ¬ P 40 4) (w40_7 : ¬ P 40 7) (w40_8 : ¬ P 40 8) (w40_9 : ¬ P 40 9) (w40_6 : ¬ P 40 6) (w29 : ∀ k, ¬ P 29 k) (w28_1 : ¬ P 28 1) (hrec : ∀ (y0 : Int) (M : Mem), fr P M0 M → A (fr P M0) (rec_ y0 M)) (h_M : fr P M0 M) : A (fr P M0) (N_readAny rec_ depth M) := by
  unfold N_readAny
  refine A_bind (fz_N_readSum w40_3 w40_5 w40_4 w40_7 w40_8 w40_9 w40_6 w29 w28_1 hrec h_M) ?_
  rintro M_1 h_M_1
  try dsimp only at h_M_1
  try dsimp only
  refine A_lt (fun l2_2 => ?_)
  refine A_ite (fun _ => ?_) (fun _ => ?_)
  ·
    refine A_bind (fz_K_pass w40_3 w40_5 w40_4 w40_7 w40_8 w40_9 w40_6 h_M_1) ?_
    rintro M_3 h_M_3
    try dsimp only at h_M_3
    try dsimp only
    refine A_bind (fz_N_readSum w40_3 w40_5 w40_4 w40_7 w40_8 w40_9 w40_6 w29 w28_1 hrec h_M_3) ?_
    rintro M_4 h_M_4
    try dsimp only at h_M_4
    try dsimp only
    refine A_bind (fz_S_add w29 w28_1 h_M_4) ?_
    rintro M_5 h_M_5
    try dsimp only at h_M_5
    try dsimp only
    exact A_some h_M_5
  ·
    exact A_some h_M_1
theorem fz_N_readF_b7 {P : Nat → Nat → Prop} {M0 : Mem} {rec_ : Int → Mem → Option (Mem)} {depth : Int} (w40_3 : ¬ P 40 3) (w40_5 : ¬ P 40 5) (w40_4 : ¬ P 40 4) (w40_7 : ¬ P 40 7) (w40_8 : ¬ P 40 8) (w40_9 : ¬ P 40 9) (w40_6 : ¬ P 40 6) (w29 : ∀ k, ¬ P 29 k) (w28_1 : ¬ P 28 1) (hrec : ∀ (y0 : Int) (M : Mem), fr P M0 M → A (fr P M0) (rec_ y0 M)) : ∀ x, (fun r => fr P M0 r.2) x → A (sK (fun r => fr P M0 r.2) (fr P M0)) (N_readF_b7 rec_ depth x) := by
  rintro ⟨l2_2, M_3⟩ h_M_3
  try dsimp only at h_M_3
  unfold N_readF_b7
  try dsimp only
  refine A_ite (fun _ => ?_) (fun _ => ?_)
  ·
    refine A_bind (fz_K_pass w40_3 w40_5 w40_4 w40_7 w40_8 w40_9 w40_6 h_M_3) ?_
    rintro M_11 h_M_11
    try dsimp only at h_M_11
    try dsimp only
    refine A_bind (fz_N_readAny w40_3 w40_5 w40_4 w40_7 w40_8 w40_9 w40_6 w29 w28_1 hrec h_M_11) ?_
    rintro M_12 h_M_12
    try dsimp only at h_M_12
    try dsimp only
    refine A_bind (fz_S_add w29 w28_1 h_M_12) ?_
    rintro M_13 h_M_13
    try dsimp only at h_M_13
    try dsimp only
    refine A_lt (fun l2_14 => ?_)
    exact A_some h_M_13
  ·
    exact A_some h_M_3
theorem fz_N_readF {P : Nat → Nat → Prop} {M0 M : Mem} {rec_ : Int → Mem → Option (Mem)} {depth : Int} (w40_3 : ¬ P 40 3) (w40_5 : ¬ P 40 5) (w40_4 : ¬ P 40 4) (w40_7 : ¬ P 40 7) (w40_8 : ¬ P 40 8) (w40_9 : ¬ P 40 9) (w40_6 : ¬ P 40 6) (w29 : ∀ k, ¬ P 29 k) (w28_1 : ¬ P 28 1) (hrec : ∀ (y0 : Int) (M : Mem), fr P M0 M → A (fr P M0) (rec_ y0 M)) (h_M : fr P M0 M) : A (fr P M0) (N_readF rec_ depth M) := by
  unfold N_readF
  refine A_bind (fz_N_readAny w40_3 w40_5 w40_4 w40_7 w40_8 w40_9 w40_6 w29 w28_1 hrec h_M) ?_
  rintro M_1 h_M_1
  try dsimp only at h_M_1
  try dsimp only
  refine A_bind (J := (fr P M0)) (A_it (I := (fun r => fr P M0 r.2)) (fun x hx => fz_N_readF_b7 w40_3 w40_5 w40_4 w40_7 w40_8 w40_9 w40_6 w29 w28_1 hrec x hx) h_M_1) ?_
  rintro M_10 h_M_10
  try dsimp only at h_M_10
  try dsimp only
  exact A_some h_M_10
theorem fz_N_readPart_s {P : Nat → Nat → Prop} {M0 M : Mem} {rec_ : Int → Mem → Option (Mem)} {depth : Int} (w40_4 : ¬ P 40 4) (w40_8 : ¬ P 40 8) (w40_9 : ¬ P 40 9) (wT0_5 : ∀ t, isT t → ¬ P t 5) (w40_3 : ¬ P 40 3) (w40_5 : ¬ P 40 5) (w40_7 : ¬ P 40 7) (w40_6 : ¬ P 40 6) (w29 : ∀ k, ¬ P 29 k) (w28_1 : ¬ P 28 1) (hrec : ∀ (y0 : Int) (M : Mem), fr P M0 M → A (fr P M0) (rec_ y0 M)) (h_M : fr P M0 M) : A (fr P M0) (N_readPart_s rec_ depth M) := by
  unfold N_readPart_s
  refine A_lt (fun l2_1 => ?_)
  refine A_bT (fun x => ?_)
  try dsimp only
  refine A_bT (fun x => ?_)
  try dsimp only
  refine A_bind (fz_N_takesUnit w40_4 w40_8 w40_9 wT0_5 h_M) ?_
  rintro ⟨r_28, M_29⟩ h_M_29
  try dsimp only at h_M_29
  try dsimp only
  refine A_ite (fun _ => ?_) (fun _ => ?_)
  ·
    exact A_some h_M_29
  ·
    refine A_ite (fun _ => ?_) (fun _ => ?_)
    ·
      refine A_bind (fz_K_pass w40_3 w40_5 w40_4 w40_7 w40_8 w40_9 w40_6 h_M_29) ?_
      rintro M_30 h_M_30
      try dsimp only at h_M_30
      try dsimp only
      refine A_bind (fz_N_readF w40_3 w40_5 w40_4 w40_7 w40_8 w40_9 w40_6 w29 w28_1 hrec h_M_30) ?_
      rintro M_31 h_M_31
      try dsimp only at h_M_31
      try dsimp only
      refine A_bind (fz_K_expect w40_3 w40_5 w40_4 w40_7 w40_8 w40_9 w40_6 h_M_31) ?_
      rintro M_32 h_M_32
      try dsimp only at h_M_32
      try dsimp only
      exact A_some h_M_32
    ·
      refine A_bT (fun x => ?_)
      try dsimp only
      refine A_bind (fz_S_add w29 w28_1 h_M_29) ?_
      rintro M_38 h_M_38
      try dsimp only at h_M_38
      try dsimp only
      refine A_bind (fz_K_pass w40_3 w40_5 w40_4 w40_7 w40_8 w40_9 w40_6 h_M_38) ?_
      rintro M_39 h_M_39
      try dsimp only at h_M_39
      try dsimp only
      exact A_some h_M_39
theorem fz_N_readPart {P : Nat → Nat → Prop} {M0 : Mem} (w40_4 : ¬ P 40 4) (w40_8 : ¬ P 40 8) (w40_9 : ¬ P 40 9) (wT0_5 : ∀ t, isT t → ¬ P t 5) (w40_3 : ¬ P 40 3) (w40_5 : ¬ P 40 5) (w40_7 : ¬ P 40 7) (w40_6 : ¬ P 40 6) (w29 : ∀ k, ¬ P 29 k) (w28_1 : ¬ P 28 1) : ∀ (d : Nat) (x0 : Int) {M : Mem}, fr P M0 M → A (fr P M0) (N_readPart d x0 M)
  | 0, _, _, _ => A_none
  | d + 1, _, _, h => fz_N_readPart_s w40_4 w40_8 w40_9 wT0_5 w40_3 w40_5 w40_7 w40_6 w29 w28_1 (fun _ _ h => fz_N_readPart w40_4 w40_8 w40_9 wT0_5 w40_3 w40_5 w40_7 w40_6 w29 w28_1 d _ h) h
theorem fz_N_readLaw {P : Nat → Nat → Prop} {M0 M : Mem}  (w40_3 : ¬ P 40 3) (w40_5 : ¬ P 40 5) (w40_4 : ¬ P 40 4) (w40_7 : ¬ P 40 7) (w40_8 : ¬ P 40 8) (w40_9 : ¬ P 40 9) (w40_6 : ¬ P 40 6) (w27_13 : ¬ P 27 13) (w27_11 : ¬ P 27 11) (w29 : ∀ k, ¬ P 29 k) (w28_1 : ¬ P 28 1) (wT0_5 : ∀ t, isT t → ¬ P t 5) (w27_12 : ¬ P 27 12) (h_M : fr P M0 M) : A (fr P M0) (N_readLaw M) := by
  unfold N_readLaw
  refine A_bT (fun x => ?_)
  try dsimp only
  refine A_bind (fz_N_begin w40_3 w40_5 w40_4 w40_7 w40_8 w40_9 w40_6 h_M) ?_
  rintro M_6 h_M_6
  try dsimp only at h_M_6
  try dsimp only
  refine A_ltM (fr_up w27_13 h_M_6) (fun M_7 h_M_7 => ?_)
  refine A_ltM (fr_up w27_11 h_M_7) (fun M_8 h_M_8 => ?_)
  refine A_bind (fz_N_readF w40_3 w40_5 w40_4 w40_7 w40_8 w40_9 w40_6 w29 w28_1 (fun x0 M h => fz_N_readPart w40_4 w40_8 w40_9 wT0_5 w40_3 w40_5 w40_7 w40_6 w29 w28_1 10 _ h) h_M_8) ?_
  rintro M_9 h_M_9
  try dsimp only at h_M_9
  try dsimp only
  refine A_ltM (fr_up w27_12 h_M_9) (fun M_10 h_M_10 => ?_)
  refine A_bind (fz_K_expect w40_3 w40_5 w40_4 w40_7 w40_8 w40_9 w40_6 h_M_10) ?_
  rintro M_11 h_M_11
  try dsimp only at h_M_11
  try dsimp only
  exact A_some h_M_11
theorem fz_N_readInto_b40 {P : Nat → Nat → Prop} {M0 : Mem}  (w40_3 : ¬ P 40 3) (w40_5 : ¬ P 40 5) (w40_4 : ¬ P 40 4) (w40_7 : ¬ P 40 7) (w40_8 : ¬ P 40 8) (w40_9 : ¬ P 40 9) (w40_6 : ¬ P 40 6) (w32 : ∀ k, ¬ P 32 k) (wT0_0 : ∀ t, isT t → ¬ P t 0) (w33 : ∀ k, ¬ P 33 k) (wT1 : ∀ t, isT t → ∀ k, ¬ P (t + 1) k) (wT2 : ∀ t, isT t → ∀ k, ¬ P (t + 2) k) (wT0_1 : ∀ t, isT t → ¬ P t 1) (w27_14 : ¬ P 27 14) (w27_15 : ¬ P 27 15) (w29 : ∀ k, ¬ P 29 k) (w28_1 : ¬ P 28 1) (wT0_5 : ∀ t, isT t → ¬ P t 5) (w34 : ∀ k, ¬ P 34 k) (w35 : ∀ k, ¬ P 35 k) (w36 : ∀ k, ¬ P 36 k) (w37 : ∀ k, ¬ P 37 k) (wT0_2 : ∀ t, isT t → ¬ P t 2) (w38 : ∀ k, ¬ P 38 k) (w39 : ∀ k, ¬ P 39 k) (w27_10 : ¬ P 27 10) (wT4 : ∀ t, isT t → ∀ k, ¬ P (t + 4) k) (wT5 : ∀ t, isT t → ∀ k, ¬ P (t + 5) k) (wT6 : ∀ t, isT t → ∀ k, ¬ P (t + 6) k) (wT3 : ∀ t, isT t → ∀ k, ¬ P (t + 3) k) (wT0_3 : ∀ t, isT t → ¬ P t 3) (wT7 : ∀ t, isT t → ∀ k, ¬ P (t + 7) k) (wT0_4 : ∀ t, isT t → ¬ P t 4) (w27_13 : ¬ P 27 13) (w27_11 : ¬ P 27 11) (w27_12 : ¬ P 27 12) : ∀ x, (fun r => fr P M0 r.2) x → A (sK (fun r => fr P M0 r.2) (fr P M0)) (N_readInto_b40 x) := by
  rintro ⟨l3_10, M_11⟩ h_M_11
  try dsimp only at h_M_11
  unfold N_readInto_b40
  try dsimp only
  refine A_bT (fun x => ?_)
  try dsimp only
  refine A_ite (fun _ => ?_) (fun _ => ?_)
  ·
    refine A_bind (J := (fr P M0)) ?_ ?_
    ·
      refine A_ite (fun _ => ?_) (fun _ => ?_)
      ·
        refine A_bind (fz_N_readFact w40_3 w40_5 w40_4 w40_7 w40_8 w40_9 w40_6 w32 wT0_0 h_M_11) ?_
        rintro M_29 h_M_29
        try dsimp only at h_M_29
        try dsimp only
        exact A_some h_M_29
      ·
        refine A_ite (fun _ => ?_) (fun _ => ?_)
        ·
          refine A_bind (fz_N_readPerson w40_3 w40_5 w40_4 w40_7 w40_8 w40_9 w40_6 w33 wT1 wT2 wT0_1 h_M_11) ?_
          rintro M_31 h_M_31
          try dsimp only at h_M_31
          try dsimp only
          exact A_some h_M_31
        ·
          refine A_ite (fun _ => ?_) (fun _ => ?_)
          ·
            refine A_bind (fz_N_readRow w40_3 w40_5 w40_4 w40_7 w40_8 w40_9 w40_6 w27_14 w27_15 w29 w28_1 wT0_5 w34 w35 w36 w37 wT0_2 h_M_11) ?_
            rintro M_33 h_M_33
            try dsimp only at h_M_33
            try dsimp only
            exact A_some h_M_33
          ·
            refine A_ite (fun _ => ?_) (fun _ => ?_)
            ·
              refine A_bind (fz_N_readAlways w40_3 w40_5 w40_4 w40_7 w40_8 w40_9 w40_6 w27_14 w29 w28_1 wT0_5 w27_15 w38 w39 w27_10 h_M_11) ?_
              rintro M_35 h_M_35
              try dsimp only at h_M_35
              try dsimp only
              exact A_some h_M_35
            ·
              refine A_ite (fun _ => ?_) (fun _ => ?_)
              ·
                refine A_bind (fz_N_readTie w40_3 w40_5 w40_4 w40_7 w40_8 w40_9 w40_6 wT4 wT5 wT6 wT3 wT0_3 h_M_11) ?_
                rintro M_37 h_M_37
                try dsimp only at h_M_37
                try dsimp only
                exact A_some h_M_37
              ·
                refine A_ite (fun _ => ?_) (fun _ => ?_)
                ·
                  refine A_bind (fz_N_readWish w40_3 w40_5 w40_4 w40_7 w40_8 w40_9 w40_6 wT7 wT0_4 h_M_11) ?_
                  rintro M_39 h_M_39
                  try dsimp only at h_M_39
                  try dsimp only
                  exact A_some h_M_39
                ·
                  refine A_ite (fun _ => ?_) (fun _ => ?_)
                  ·
                    refine A_bind (fz_N_readLaw w40_3 w40_5 w40_4 w40_7 w40_8 w40_9 w40_6 w27_13 w27_11 w29 w28_1 wT0_5 w27_12 h_M_11) ?_
                    rintro M_41 h_M_41
                    try dsimp only at h_M_41
                    try dsimp only
                    exact A_some h_M_41
                  ·
                    refine A_bind (fz_K_fail w40_4 w40_8 w40_9 h_M_11) ?_
                    rintro M_43 h_M_43
                    try dsimp only at h_M_43
                    try dsimp only
                    exact A_some h_M_43
    rintro M_25 h_M_25
    try dsimp only at h_M_25
    try dsimp only
    refine A_lt (fun l3_45 => ?_)
    exact A_some h_M_25
  ·
    exact A_some h_M_11
theorem fz_N_readInto {P : Nat → Nat → Prop} {M0 M : Mem} {tinto : Nat} {length : Int} (w27_16 : ¬ P 27 16) (wT0_0 : ∀ t, isT t → ¬ P t 0) (wT0_1 : ∀ t, isT t → ¬ P t 1) (wT0_2 : ∀ t, isT t → ¬ P t 2) (wT0_3 : ∀ t, isT t → ¬ P t 3) (wT0_4 : ∀ t, isT t → ¬ P t 4) (wT0_5 : ∀ t, isT t → ¬ P t 5) (wT3 : ∀ t, isT t → ∀ k, ¬ P (t + 3) k) (wT7 : ∀ t, isT t → ∀ k, ¬ P (t + 7) k) (w28_1 : ¬ P 28 1) (w27_10 : ¬ P 27 10) (w27_13 : ¬ P 27 13) (w40_2 : ¬ P 40 2) (w40_3 : ¬ P 40 3) (w40_8 : ¬ P 40 8) (w40_9 : ¬ P 40 9) (w40_4 : ¬ P 40 4) (w40_5 : ¬ P 40 5) (w40_7 : ¬ P 40 7) (w40_6 : ¬ P 40 6) (w32 : ∀ k, ¬ P 32 k) (w33 : ∀ k, ¬ P 33 k) (wT1 : ∀ t, isT t → ∀ k, ¬ P (t + 1) k) (wT2 : ∀ t, isT t → ∀ k, ¬ P (t + 2) k) (w27_14 : ¬ P 27 14) (w27_15 : ¬ P 27 15) (w29 : ∀ k, ¬ P 29 k) (w34 : ∀ k, ¬ P 34 k) (w35 : ∀ k, ¬ P 35 k) (w36 : ∀ k, ¬ P 36 k) (w37 : ∀ k, ¬ P 37 k) (w38 : ∀ k, ¬ P 38 k) (w39 : ∀ k, ¬ P 39 k) (wT4 : ∀ t, isT t → ∀ k, ¬ P (t + 4) k) (wT5 : ∀ t, isT t → ∀ k, ¬ P (t + 5) k) (wT6 : ∀ t, isT t → ∀ k, ¬ P (t + 6) k) (w27_11 : ¬ P 27 11) (w27_12 : ¬ P 27 12) (h_M : fr P M0 M) : A (fr P M0) (N_readInto tinto length M) := by
  unfold N_readInto
  refine A_ltM (fr_up w27_16 h_M) (fun M_1 h_M_1 => ?_)
  refine A_T (fun t_3 ht_3 => ?_)
  refine A_bind (fz_T_clear (wT0_0 t_3 ht_3) (wT0_1 t_3 ht_3) (wT0_2 t_3 ht_3) (wT0_3 t_3 ht_3) (wT0_4 t_3 ht_3) (wT0_5 t_3 ht_3) (wT3 t_3 ht_3) (wT7 t_3 ht_3) h_M_1) ?_
  rintro M_5 h_M_5
  try dsimp only at h_M_5
  try dsimp only
  refine A_ltM (fr_up w28_1 h_M_5) (fun M_6 h_M_6 => ?_)
  refine A_ltM (fr_up w27_10 h_M_6) (fun M_7 h_M_7 => ?_)
  refine A_ltM (fr_up w27_13 h_M_7) (fun M_8 h_M_8 => ?_)
  refine A_bind (fz_K_start w40_2 w40_3 w40_8 w40_9 w40_4 w40_5 w40_7 w40_6 h_M_8) ?_
  rintro M_9 h_M_9
  try dsimp only at h_M_9
  try dsimp only
  refine A_bind (J := (fr P M0)) (A_it (I := (fun r => fr P M0 r.2)) (fun x hx => fz_N_readInto_b40 w40_3 w40_5 w40_4 w40_7 w40_8 w40_9 w40_6 w32 wT0_0 w33 wT1 wT2 wT0_1 w27_14 w27_15 w29 w28_1 wT0_5 w34 w35 w36 w37 wT0_2 w38 w39 w27_10 wT4 wT5 wT6 wT3 wT0_3 wT7 wT0_4 w27_13 w27_11 w27_12 x hx) h_M_9) ?_
  rintro M_18 h_M_18
  try dsimp only at h_M_18
  try dsimp only
  exact A_some h_M_18
theorem fz_S_value_b6 {P : Nat → Nat → Prop} {M0 : Mem} {end_ : Int} {way : Int} (w31 : ∀ k, ¬ P 31 k) : ∀ x, (fun r => fr P M0 r.2.2) x → A (sK (fun r => fr P M0 r.2.2) (fun r => fr P M0 r.2)) (S_value_b6 end_ way x) := by
  rintro ⟨l4_1, l5_2, M_3⟩ h_M_3
  try dsimp only at h_M_3
  unfold S_value_b6
  try dsimp only
  refine A_ite (fun _ => ?_) (fun _ => ?_)
  ·
    refine A_chk (fun hchk => ?_)
    refine A_lt (fun l6_14 => ?_)
    refine A_bind (J := (fun r => fr P M0 r.2)) ?_ ?_
    ·
      refine A_ite (fun _ => ?_) (fun _ => ?_)
      ·
        refine A_ite (fun _ => ?_) (fun _ => ?_)
        ·
          refine A_bT (fun x => ?_)
          try dsimp only
          refine A_chk (fun hchk => ?_)
          refine A_ltM (fr_up (w31 _) h_M_3) (fun M_28 h_M_28 => ?_)
          refine A_lt (fun l4_29 => ?_)
          exact A_some h_M_28
        ·
          exact A_some h_M_3
      ·
        refine A_ite (fun _ => ?_) (fun _ => ?_)
        ·
          refine A_lt (fun l4_31 => ?_)
          refine A_chk (fun hchk => ?_)
          refine A_chk (fun hchk => ?_)
          refine A_bT (fun x => ?_)
          try dsimp only
          refine A_ltM (fr_up (w31 _) h_M_3) (fun M_37 h_M_37 => ?_)
          exact A_some h_M_37
        ·
          exact A_some h_M_3
    rintro ⟨l4_15, M_16⟩ h_M_16
    try dsimp only at h_M_16
    try dsimp only
    refine A_lt (fun l5_51 => ?_)
    exact A_some h_M_16
  ·
    exact A_some h_M_3
theorem fz_S_value {P : Nat → Nat → Prop} {M0 M : Mem} {start : Int} {end_ : Int} {way : Int} (w31 : ∀ k, ¬ P 31 k) (h_M : fr P M0 M) : A (fun r => fr P M0 r.2) (S_value start end_ way M) := by
  unfold S_value
  refine A_bind (J := (fun r => fr P M0 r.2)) (A_it (I := (fun r => fr P M0 r.2.2)) (fun x hx => fz_S_value_b6 w31 x hx) h_M) ?_
  rintro ⟨l4_10, M_11⟩ h_M_11
  try dsimp only at h_M_11
  try dsimp only
  refine A_ite (fun _ => ?_) (fun _ => ?_)
  ·
    exact A_some h_M_11
  ·
    exact A_some h_M_11
theorem fz_N_fillLaw_b10 {P : Nat → Nat → Prop} {M0 : Mem}  (w31 : ∀ k, ¬ P 31 k) (wT0_7 : ∀ t, isT t → ¬ P t 7) : ∀ x, (fun r => fr P M0 r.2) x → A (sK (fun r => fr P M0 r.2) (fr P M0)) (N_fillLaw_b10 x) := by
  rintro ⟨l1_5, M_6⟩ h_M_6
  try dsimp only at h_M_6
  unfold N_fillLaw_b10
  try dsimp only
  refine A_T (fun t_15 ht_15 => ?_)
  refine A_ite (fun _ => ?_) (fun _ => ?_)
  ·
    refine A_bind (J := (fun r => fr P M0 r.2)) ?_ ?_
    ·
      refine A_ite (fun _ => ?_) (fun _ => ?_)
      ·
        refine A_bind (fz_S_value w31 h_M_6) ?_
        rintro ⟨r_22, M_23⟩ h_M_23
        try dsimp only at h_M_23
        try dsimp only
        refine A_ite (fun _ => ?_) (fun _ => ?_)
        ·
          exact A_some h_M_23
        ·
          exact A_some h_M_23
      ·
        refine A_ite (fun _ => ?_) (fun _ => ?_)
        ·
          exact A_some h_M_6
        ·
          exact A_some h_M_6
    rintro ⟨v_17, M_18⟩ h_M_18
    try dsimp only at h_M_18
    try dsimp only
    refine A_bind (J := (fr P M0)) ?_ ?_
    ·
      refine A_ite (fun _ => ?_) (fun _ => ?_)
      ·
        refine A_T (fun t_32 ht_32 => ?_)
        refine A_ltM (fr_up (wT0_7 t_32 ht_32) h_M_18) (fun M_34 h_M_34 => ?_)
        exact A_some h_M_34
      ·
        exact A_some h_M_18
    rintro M_27 h_M_27
    try dsimp only at h_M_27
    try dsimp only
    refine A_lt (fun l1_36 => ?_)
    exact A_some h_M_27
  ·
    exact A_some h_M_6
theorem fz_N_fillLaw {P : Nat → Nat → Prop} {M0 M : Mem}  (wT0_7 : ∀ t, isT t → ¬ P t 7) (w31 : ∀ k, ¬ P 31 k) (h_M : fr P M0 M) : A (fr P M0) (N_fillLaw M) := by
  unfold N_fillLaw
  refine A_T (fun t_2 ht_2 => ?_)
  refine A_ltM (fr_up (wT0_7 t_2 ht_2) h_M) (fun M_4 h_M_4 => ?_)
  refine A_bind (J := (fr P M0)) (A_it (I := (fun r => fr P M0 r.2)) (fun x hx => fz_N_fillLaw_b10 w31 wT0_7 x hx) h_M_4) ?_
  rintro M_13 h_M_13
  try dsimp only at h_M_13
  try dsimp only
  exact A_some h_M_13
theorem fz_S_push_b3 {P : Nat → Nat → Prop} {M0 : Mem} {ttown : Nat} {sign : Int} {of_ : Int} {at_ : Int} (w30 : ∀ k, ¬ P 30 k) : ∀ x, (fun r => fr P M0 r.2) x → A (sK (fun r => fr P M0 r.2) (fr P M0)) (S_push_b3 ttown sign of_ at_ x) := by
  rintro ⟨l5_1, M_2⟩ h_M_2
  try dsimp only at h_M_2
  unfold S_push_b3
  try dsimp only
  refine A_ite (fun _ => ?_) (fun _ => ?_)
  ·
    refine A_bind (J := (fr P M0)) ?_ ?_
    ·
      refine A_ite (fun _ => ?_) (fun _ => ?_)
      ·
        refine A_chk (fun hchk => ?_)
        refine A_chk (fun hchk => ?_)
        refine A_ltM (fr_up (w30 _) h_M_2) (fun M_18 h_M_18 => ?_)
        exact A_some h_M_18
      ·
        refine A_ite (fun _ => ?_) (fun _ => ?_)
        ·
          refine A_chk (fun hchk => ?_)
          refine A_bT (fun x => ?_)
          try dsimp only
          refine A_chk (fun hchk => ?_)
          refine A_ltM (fr_up (w30 _) h_M_2) (fun M_24 h_M_24 => ?_)
          exact A_some h_M_24
        ·
          refine A_bT (fun x => ?_)
          try dsimp only
          refine A_bT (fun x => ?_)
          try dsimp only
          refine A_chk (fun hchk => ?_)
          refine A_ltM (fr_up (w30 _) h_M_2) (fun M_33 h_M_33 => ?_)
          exact A_some h_M_33
    rintro M_10 h_M_10
    try dsimp only at h_M_10
    try dsimp only
    refine A_lt (fun l5_36 => ?_)
    exact A_some h_M_10
  ·
    exact A_some h_M_2
theorem fz_S_push {P : Nat → Nat → Prop} {M0 M : Mem} {ttown : Nat} {sign : Int} {of_ : Int} {at_ : Int} (w30 : ∀ k, ¬ P 30 k) (h_M : fr P M0 M) : A (fr P M0) (S_push ttown sign of_ at_ M) := by
  unfold S_push
  refine A_bind (J := (fr P M0)) (A_it (I := (fun r => fr P M0 r.2)) (fun x hx => fz_S_push_b3 w30 x hx) h_M) ?_
  rintro M_9 h_M_9
  try dsimp only at h_M_9
  try dsimp only
  exact A_some h_M_9
theorem fz_S_join_b3 {P : Nat → Nat → Prop} {M0 : Mem} {ttown : Nat} {sign : Int} {at_ : Int} (w30 : ∀ k, ¬ P 30 k) : ∀ x, (fun r => fr P M0 r.2) x → A (sK (fun r => fr P M0 r.2) (fr P M0)) (S_join_b3 ttown sign at_ x) := by
  rintro ⟨l4_1, M_2⟩ h_M_2
  try dsimp only at h_M_2
  unfold S_join_b3
  try dsimp only
  refine A_ite (fun _ => ?_) (fun _ => ?_)
  ·
    refine A_chk (fun hchk => ?_)
    refine A_lt (fun l5_12 => ?_)
    refine A_chk (fun hchk => ?_)
    refine A_lt (fun l7_15 => ?_)
    refine A_bind (J := (fr P M0)) ?_ ?_
    ·
      refine A_ite (fun _ => ?_) (fun _ => ?_)
      ·
        refine A_ltM (fr_up (w30 _) h_M_2) (fun M_20 h_M_20 => ?_)
        exact A_some h_M_20
      ·
        refine A_ite (fun _ => ?_) (fun _ => ?_)
        ·
          refine A_ltM (fr_up (w30 _) h_M_2) (fun M_21 h_M_21 => ?_)
          exact A_some h_M_21
        ·
          refine A_bT (fun x => ?_)
          try dsimp only
          refine A_ltM (fr_up (w30 _) h_M_2) (fun M_23 h_M_23 => ?_)
          exact A_some h_M_23
    rintro M_16 h_M_16
    try dsimp only at h_M_16
    try dsimp only
    refine A_lt (fun l4_26 => ?_)
    exact A_some h_M_16
  ·
    exact A_some h_M_2
theorem fz_S_join {P : Nat → Nat → Prop} {M0 M : Mem} {ttown : Nat} {sign : Int} {at_ : Int} (w30 : ∀ k, ¬ P 30 k) (h_M : fr P M0 M) : A (fr P M0) (S_join ttown sign at_ M) := by
  unfold S_join
  refine A_bind (J := (fr P M0)) (A_it (I := (fun r => fr P M0 r.2)) (fun x hx => fz_S_join_b3 w30 x hx) h_M) ?_
  rintro M_9 h_M_9
  try dsimp only at h_M_9
  try dsimp only
  exact A_some h_M_9
theorem fz_T_flip_b2 {P : Nat → Nat → Prop} {M0 : Mem} {t : Nat} {sets : Nat} {at_ : Int} (wsets0 : ∀ k, ¬ P sets k) : ∀ x, (fun r => fr P M0 r.2) x → A (sK (fun r => fr P M0 r.2) (fr P M0)) (T_flip_b2 t sets at_ x) := by
  rintro ⟨l3_1, M_2⟩ h_M_2
  try dsimp only at h_M_2
  unfold T_flip_b2
  try dsimp only
  refine A_ite (fun _ => ?_) (fun _ => ?_)
  ·
    refine A_chk (fun hchk => ?_)
    refine A_chk (fun hchk => ?_)
    refine A_ltM (fr_up (wsets0 _) h_M_2) (fun M_19 h_M_19 => ?_)
    refine A_lt (fun l3_20 => ?_)
    exact A_some h_M_19
  ·
    exact A_some h_M_2
theorem fz_T_flip {P : Nat → Nat → Prop} {M0 M : Mem} {t : Nat} {sets : Nat} {at_ : Int} (wsets0 : ∀ k, ¬ P sets k) (h_M : fr P M0 M) : A (fr P M0) (T_flip t sets at_ M) := by
  unfold T_flip
  refine A_bind (J := (fr P M0)) (A_it (I := (fun r => fr P M0 r.2)) (fun x hx => fz_T_flip_b2 wsets0 x hx) h_M) ?_
  rintro M_9 h_M_9
  try dsimp only at h_M_9
  try dsimp only
  exact A_some h_M_9
theorem fz_T_keepBase_b2 {P : Nat → Nat → Prop} {M0 : Mem} {t : Nat} {sets : Nat} {at_ : Int} (wsets0 : ∀ k, ¬ P sets k) : ∀ x, (fun r => fr P M0 r.2) x → A (sK (fun r => fr P M0 r.2) (fr P M0)) (T_keepBase_b2 t sets at_ x) := by
  rintro ⟨l3_1, M_2⟩ h_M_2
  try dsimp only at h_M_2
  unfold T_keepBase_b2
  try dsimp only
  refine A_ite (fun _ => ?_) (fun _ => ?_)
  ·
    refine A_chk (fun hchk => ?_)
    refine A_chk (fun hchk => ?_)
    refine A_ltM (fr_up (wsets0 _) h_M_2) (fun M_19 h_M_19 => ?_)
    refine A_lt (fun l3_20 => ?_)
    exact A_some h_M_19
  ·
    exact A_some h_M_2
theorem fz_T_keepBase {P : Nat → Nat → Prop} {M0 M : Mem} {t : Nat} {sets : Nat} {at_ : Int} (wsets0 : ∀ k, ¬ P sets k) (h_M : fr P M0 M) : A (fr P M0) (T_keepBase t sets at_ M) := by
  unfold T_keepBase
  refine A_bind (J := (fr P M0)) (A_it (I := (fun r => fr P M0 r.2)) (fun x hx => fz_T_keepBase_b2 wsets0 x hx) h_M) ?_
  rintro M_9 h_M_9
  try dsimp only at h_M_9
  try dsimp only
  exact A_some h_M_9
theorem fz_T_forget_b21 {P : Nat → Nat → Prop} {M0 : Mem} {t : Nat} {sets : Nat} {at_ : Int} {l4_1 : Int} {l5_4 : Int} (wsets0 : ∀ k, ¬ P sets k) : ∀ x, (fun r => fr P M0 r.2) x → A (sK (fun r => fr P M0 r.2) (fr P M0)) (T_forget_b21 t sets at_ l4_1 l5_4 x) := by
  rintro ⟨l7_5, M_6⟩ h_M_6
  try dsimp only at h_M_6
  unfold T_forget_b21
  try dsimp only
  refine A_ite (fun _ => ?_) (fun _ => ?_)
  ·
    refine A_chk (fun hchk => ?_)
    refine A_lt (fun l8_21 => ?_)
    refine A_ltM (fr_up (wsets0 _) h_M_6) (fun M_22 h_M_22 => ?_)
    refine A_lt (fun l7_23 => ?_)
    exact A_some h_M_22
  ·
    exact A_some h_M_6
theorem fz_T_forget_b84 {P : Nat → Nat → Prop} {M0 : Mem} {t : Nat} {sets : Nat} {at_ : Int} {l4_25 : Int} (wsets0 : ∀ k, ¬ P sets k) : ∀ x, (fun r => fr P M0 r.2) x → A (sK (fun r => fr P M0 r.2) (fr P M0)) (T_forget_b84 t sets at_ l4_25 x) := by
  rintro ⟨l5_26, M_27⟩ h_M_27
  try dsimp only at h_M_27
  unfold T_forget_b84
  try dsimp only
  refine A_ite (fun _ => ?_) (fun _ => ?_)
  ·
    refine A_bind (J := (fr P M0)) ?_ ?_
    ·
      refine A_ite (fun _ => ?_) (fun _ => ?_)
      ·
        refine A_chk (fun hchk => ?_)
        refine A_chk (fun hchk => ?_)
        refine A_lt (fun l6_53 => ?_)
        refine A_ltM (fr_up (wsets0 _) h_M_27) (fun M_54 h_M_54 => ?_)
        refine A_ltM (fr_up (wsets0 _) h_M_54) (fun M_55 h_M_55 => ?_)
        exact A_some h_M_55
      ·
        exact A_some h_M_27
    rintro M_35 h_M_35
    try dsimp only at h_M_35
    try dsimp only
    refine A_lt (fun l5_57 => ?_)
    exact A_some h_M_35
  ·
    exact A_some h_M_27
theorem fz_T_forget {P : Nat → Nat → Prop} {M0 M : Mem} {t : Nat} {sets : Nat} {at_ : Int} {fact : Int} (wsets0 : ∀ k, ¬ P sets k) (h_M : fr P M0 M) : A (fr P M0) (T_forget t sets at_ fact M) := by
  unfold T_forget
  refine A_ite (fun _ => ?_) (fun _ => ?_)
  ·
    refine A_lt (fun l4_1 => ?_)
    refine A_chk (fun hchk => ?_)
    refine A_lt (fun l5_4 => ?_)
    refine A_bind (J := (fr P M0)) (A_it (I := (fun r => fr P M0 r.2)) (fun x hx => fz_T_forget_b21 wsets0 x hx) h_M) ?_
    rintro M_13 h_M_13
    try dsimp only at h_M_13
    try dsimp only
    exact A_some h_M_13
  ·
    refine A_lt (fun l4_25 => ?_)
    refine A_bind (J := (fr P M0)) (A_it (I := (fun r => fr P M0 r.2)) (fun x hx => fz_T_forget_b84 wsets0 x hx) h_M) ?_
    rintro M_34 h_M_34
    try dsimp only at h_M_34
    try dsimp only
    exact A_some h_M_34
theorem fz_T_widen_b9 {P : Nat → Nat → Prop} {M0 : Mem} {t : Nat} {sets : Nat} {at_ : Int} {person : Int} (wsets0 : ∀ k, ¬ P sets k) : ∀ x, (fun r => fr P M0 r.2) x → A (sK (fun r => fr P M0 r.2) (fr P M0)) (T_widen_b9 t sets at_ person x) := by
  rintro ⟨l4_2, M_3⟩ h_M_3
  try dsimp only at h_M_3
  unfold T_widen_b9
  try dsimp only
  refine A_ite (fun _ => ?_) (fun _ => ?_)
  ·
    refine A_chk (fun hchk => ?_)
    refine A_bT (fun x => ?_)
    try dsimp only
    refine A_bind (J := (fr P M0)) ?_ ?_
    ·
      refine A_ite (fun _ => ?_) (fun _ => ?_)
      ·
        refine A_bind (fz_T_forget wsets0 h_M_3) ?_
        rintro M_18 h_M_18
        try dsimp only at h_M_18
        try dsimp only
        exact A_some h_M_18
      ·
        exact A_some h_M_3
    rintro M_14 h_M_14
    try dsimp only at h_M_14
    try dsimp only
    refine A_lt (fun l4_20 => ?_)
    exact A_some h_M_14
  ·
    exact A_some h_M_3
theorem fz_T_widen {P : Nat → Nat → Prop} {M0 M : Mem} {t : Nat} {sets : Nat} {at_ : Int} {person : Int} (wsets0 : ∀ k, ¬ P sets k) (h_M : fr P M0 M) : A (fr P M0) (T_widen t sets at_ person M) := by
  unfold T_widen
  refine A_bind (fz_T_keepBase wsets0 h_M) ?_
  rintro M_1 h_M_1
  try dsimp only at h_M_1
  try dsimp only
  refine A_bind (J := (fr P M0)) (A_it (I := (fun r => fr P M0 r.2)) (fun x hx => fz_T_widen_b9 wsets0 x hx) h_M_1) ?_
  rintro M_10 h_M_10
  try dsimp only at h_M_10
  try dsimp only
  refine A_bind (fz_T_keepBase wsets0 h_M_10) ?_
  rintro M_22 h_M_22
  try dsimp only at h_M_22
  try dsimp only
  exact A_some h_M_22
theorem fz_T_keepHeld {P : Nat → Nat → Prop} {M0 M : Mem} {t : Nat} {sets : Nat} {at_ : Int} {person : Int} (wsets0 : ∀ k, ¬ P sets k) (h_M : fr P M0 M) : A (fr P M0) (T_keepHeld t sets at_ person M) := by
  unfold T_keepHeld
  refine A_bind (fz_T_flip wsets0 h_M) ?_
  rintro M_1 h_M_1
  try dsimp only at h_M_1
  try dsimp only
  refine A_bind (fz_T_widen wsets0 h_M_1) ?_
  rintro M_2 h_M_2
  try dsimp only at h_M_2
  try dsimp only
  refine A_bind (fz_T_flip wsets0 h_M_2) ?_
  rintro M_3 h_M_3
  try dsimp only at h_M_3
  try dsimp only
  exact A_some h_M_3
theorem fz_S_change_b43 {P : Nat → Nat → Prop} {M0 : Mem} {ttown : Nat} {at_ : Int} (w30 : ∀ k, ¬ P 30 k) : ∀ x, (fun r => fr P M0 r.2) x → A (sK (fun r => fr P M0 r.2) (fr P M0)) (S_change_b43 ttown at_ x) := by
  rintro ⟨l5_3, M_4⟩ h_M_4
  try dsimp only at h_M_4
  unfold S_change_b43
  try dsimp only
  refine A_ite (fun _ => ?_) (fun _ => ?_)
  ·
    refine A_chk (fun hchk => ?_)
    refine A_bT (fun x => ?_)
    try dsimp only
    refine A_ltM (fr_up (w30 _) h_M_4) (fun M_15 h_M_15 => ?_)
    refine A_lt (fun l5_16 => ?_)
    exact A_some h_M_15
  ·
    exact A_some h_M_4
theorem fz_S_change {P : Nat → Nat → Prop} {M0 M : Mem} {ttown : Nat} {sign : Int} {of_ : Int} {at_ : Int} (w30 : ∀ k, ¬ P 30 k) (h_M : fr P M0 M) : A (fr P M0) (S_change ttown sign of_ at_ M) := by
  unfold S_change
  refine A_ite (fun _ => ?_) (fun _ => ?_)
  ·
    refine A_bind (fz_T_keepHeld w30 h_M) ?_
    rintro M_1 h_M_1
    try dsimp only at h_M_1
    try dsimp only
    exact A_some h_M_1
  ·
    refine A_ite (fun _ => ?_) (fun _ => ?_)
    ·
      refine A_bind (fz_T_widen w30 h_M) ?_
      rintro M_2 h_M_2
      try dsimp only at h_M_2
      try dsimp only
      exact A_some h_M_2
    ·
      refine A_bind (J := (fr P M0)) (A_it (I := (fun r => fr P M0 r.2)) (fun x hx => fz_S_change_b43 w30 x hx) h_M) ?_
      rintro M_11 h_M_11
      try dsimp only at h_M_11
      try dsimp only
      exact A_some h_M_11
theorem fz_S_putSet_b6 {P : Nat → Nat → Prop} {M0 : Mem} {ttown : Nat} {end_ : Int} (w30 : ∀ k, ¬ P 30 k) : ∀ x, (fun r => fr P M0 r.2.2) x → A (sK (fun r => fr P M0 r.2.2) (fr P M0)) (S_putSet_b6 ttown end_ x) := by
  rintro ⟨l4_1, l5_2, M_3⟩ h_M_3
  try dsimp only at h_M_3
  unfold S_putSet_b6
  try dsimp only
  refine A_ite (fun _ => ?_) (fun _ => ?_)
  ·
    refine A_chk (fun hchk => ?_)
    refine A_lt (fun l6_13 => ?_)
    refine A_lt (fun l7_14 => ?_)
    refine A_bind (J := (fun r => fr P M0 r.2)) ?_ ?_
    ·
      refine A_ite (fun _ => ?_) (fun _ => ?_)
      ·
        refine A_ite (fun _ => ?_) (fun _ => ?_)
        ·
          refine A_bind (fz_S_push w30 h_M_3) ?_
          rintro M_20 h_M_20
          try dsimp only at h_M_20
          try dsimp only
          refine A_lt (fun l4_21 => ?_)
          exact A_some h_M_20
        ·
          exact A_some h_M_3
      ·
        refine A_ite (fun _ => ?_) (fun _ => ?_)
        ·
          refine A_ite (fun _ => ?_) (fun _ => ?_)
          ·
            refine A_lt (fun l4_23 => ?_)
            refine A_bind (fz_S_join w30 h_M_3) ?_
            rintro M_24 h_M_24
            try dsimp only at h_M_24
            try dsimp only
            exact A_some h_M_24
          ·
            exact A_some h_M_3
        ·
          refine A_ite (fun _ => ?_) (fun _ => ?_)
          ·
            refine A_bind (fz_S_change w30 h_M_3) ?_
            rintro M_26 h_M_26
            try dsimp only at h_M_26
            try dsimp only
            exact A_some h_M_26
          ·
            exact A_some h_M_3
    rintro ⟨l4_15, M_16⟩ h_M_16
    try dsimp only at h_M_16
    try dsimp only
    refine A_lt (fun l5_42 => ?_)
    exact A_some h_M_16
  ·
    exact A_some h_M_3
theorem fz_S_putSet {P : Nat → Nat → Prop} {M0 M : Mem} {ttown : Nat} {start : Int} {end_ : Int} (w30 : ∀ k, ¬ P 30 k) (h_M : fr P M0 M) : A (fr P M0) (S_putSet ttown start end_ M) := by
  unfold S_putSet
  refine A_bind (J := (fr P M0)) (A_it (I := (fun r => fr P M0 r.2.2)) (fun x hx => fz_S_putSet_b6 w30 x hx) h_M) ?_
  rintro M_10 h_M_10
  try dsimp only at h_M_10
  try dsimp only
  exact A_some h_M_10
theorem fz_N_fillRows_b2 {P : Nat → Nat → Prop} {M0 : Mem} {holds_ : Int} (w30 : ∀ k, ¬ P 30 k) (wT9 : ∀ t, isT t → ∀ k, ¬ P (t + 9) k) : ∀ x, (fun r => fr P M0 r.2) x → A (sK (fun r => fr P M0 r.2) (fr P M0)) (N_fillRows_b2 holds_ x) := by
  rintro ⟨l2_1, M_2⟩ h_M_2
  try dsimp only at h_M_2
  unfold N_fillRows_b2
  try dsimp only
  refine A_T (fun t_11 ht_11 => ?_)
  refine A_ite (fun _ => ?_) (fun _ => ?_)
  ·
    refine A_chk (fun hchk => ?_)
    refine A_bind (J := (fr P M0)) ?_ ?_
    ·
      refine A_ite (fun _ => ?_) (fun _ => ?_)
      ·
        refine A_bind (fz_S_putSet w30 h_M_2) ?_
        rintro M_19 h_M_19
        try dsimp only at h_M_19
        try dsimp only
        refine A_T (fun t_21 ht_21 => ?_)
        refine A_chk (fun hchk => ?_)
        refine A_ltM (fr_cpy (wT9 t_21 ht_21) h_M_19) (fun M_28 h_M_28 => ?_)
        exact A_some h_M_28
      ·
        exact A_some h_M_2
    rintro M_15 h_M_15
    try dsimp only at h_M_15
    try dsimp only
    refine A_lt (fun l2_30 => ?_)
    exact A_some h_M_15
  ·
    exact A_some h_M_2
theorem fz_N_fillRows {P : Nat → Nat → Prop} {M0 M : Mem} {holds_ : Int} (w30 : ∀ k, ¬ P 30 k) (wT9 : ∀ t, isT t → ∀ k, ¬ P (t + 9) k) (h_M : fr P M0 M) : A (fr P M0) (N_fillRows holds_ M) := by
  unfold N_fillRows
  refine A_bind (J := (fr P M0)) (A_it (I := (fun r => fr P M0 r.2)) (fun x hx => fz_N_fillRows_b2 w30 wT9 x hx) h_M) ?_
  rintro M_9 h_M_9
  try dsimp only at h_M_9
  try dsimp only
  exact A_some h_M_9
theorem fz_T_fillAnswers_b12 {P : Nat → Nat → Prop} {M0 : Mem} {t : Nat} {l1_1 : Int} (wt10 : ∀ k, ¬ P (t + 10) k) (wt11 : ∀ k, ¬ P (t + 11) k) : ∀ x, (fun r => fr P M0 r.2) x → A (sK (fun r => fr P M0 r.2) (fr P M0)) (T_fillAnswers_b12 t l1_1 x) := by
  rintro ⟨l2_10, M_11⟩ h_M_11
  try dsimp only at h_M_11
  unfold T_fillAnswers_b12
  try dsimp only
  refine A_ite (fun _ => ?_) (fun _ => ?_)
  ·
    refine A_bT (fun x => ?_)
    try dsimp only
    refine A_chk (fun hchk => ?_)
    refine A_ltM (fr_cpy wt10 h_M_11) (fun M_25 h_M_25 => ?_)
    refine A_bind (fz_T_keepHeld wt10 h_M_25) ?_
    rintro M_26 h_M_26
    try dsimp only at h_M_26
    try dsimp only
    refine A_chk (fun hchk => ?_)
    refine A_ltM (fr_cpy wt11 h_M_26) (fun M_32 h_M_32 => ?_)
    refine A_bind (fz_T_widen wt11 h_M_32) ?_
    rintro M_33 h_M_33
    try dsimp only at h_M_33
    try dsimp only
    refine A_bind (fz_T_flip wt11 h_M_33) ?_
    rintro M_34 h_M_34
    try dsimp only at h_M_34
    try dsimp only
    refine A_lt (fun l2_35 => ?_)
    exact A_some h_M_34
  ·
    exact A_some h_M_11
theorem fz_T_fillAnswers_b2 {P : Nat → Nat → Prop} {M0 : Mem} {t : Nat} (wt10 : ∀ k, ¬ P (t + 10) k) (wt11 : ∀ k, ¬ P (t + 11) k) : ∀ x, (fun r => fr P M0 r.2) x → A (sK (fun r => fr P M0 r.2) (fr P M0)) (T_fillAnswers_b2 t x) := by
  rintro ⟨l1_1, M_2⟩ h_M_2
  try dsimp only at h_M_2
  unfold T_fillAnswers_b2
  try dsimp only
  refine A_ite (fun _ => ?_) (fun _ => ?_)
  ·
    refine A_bind (J := (fr P M0)) (A_it (I := (fun r => fr P M0 r.2)) (fun x hx => fz_T_fillAnswers_b12 wt10 wt11 x hx) h_M_2) ?_
    rintro M_18 h_M_18
    try dsimp only at h_M_18
    try dsimp only
    refine A_lt (fun l1_37 => ?_)
    exact A_some h_M_18
  ·
    exact A_some h_M_2
theorem fz_T_fillAnswers {P : Nat → Nat → Prop} {M0 M : Mem} {t : Nat} (wt10 : ∀ k, ¬ P (t + 10) k) (wt11 : ∀ k, ¬ P (t + 11) k) (h_M : fr P M0 M) : A (fr P M0) (T_fillAnswers t M) := by
  unfold T_fillAnswers
  refine A_bind (J := (fr P M0)) (A_it (I := (fun r => fr P M0 r.2)) (fun x hx => fz_T_fillAnswers_b2 wt10 wt11 x hx) h_M) ?_
  rintro M_9 h_M_9
  try dsimp only at h_M_9
  try dsimp only
  exact A_some h_M_9
theorem fz_N_settle_b46 {P : Nat → Nat → Prop} {M0 : Mem}  (wT8 : ∀ t, isT t → ∀ k, ¬ P (t + 8) k) : ∀ x, (fun r => fr P M0 r.2) x → A (sK (fun r => fr P M0 r.2) (fr P M0)) (N_settle_b46 x) := by
  rintro ⟨l1_12, M_13⟩ h_M_13
  try dsimp only at h_M_13
  unfold N_settle_b46
  try dsimp only
  refine A_T (fun t_22 ht_22 => ?_)
  refine A_ite (fun _ => ?_) (fun _ => ?_)
  ·
    refine A_bT (fun x => ?_)
    try dsimp only
    refine A_chk (fun hchk => ?_)
    refine A_ltM (fr_up ((wT8 t_22 ht_22) _) h_M_13) (fun M_27 h_M_27 => ?_)
    refine A_lt (fun l1_28 => ?_)
    exact A_some h_M_27
  ·
    exact A_some h_M_13
theorem fz_N_settle_b81 {P : Nat → Nat → Prop} {M0 : Mem}  (w30 : ∀ k, ¬ P 30 k) (wT8 : ∀ t, isT t → ∀ k, ¬ P (t + 8) k) : ∀ x, (fun r => fr P M0 r.2) x → A (sK (fun r => fr P M0 r.2) (fr P M0)) (N_settle_b81 x) := by
  rintro ⟨l1_30, M_31⟩ h_M_31
  try dsimp only at h_M_31
  unfold N_settle_b81
  try dsimp only
  refine A_ite (fun _ => ?_) (fun _ => ?_)
  ·
    refine A_T (fun t_40 ht_40 => ?_)
    refine A_chk (fun hchk => ?_)
    refine A_bind (fz_S_putSet w30 h_M_31) ?_
    rintro M_44 h_M_44
    try dsimp only at h_M_44
    try dsimp only
    refine A_T (fun t_46 ht_46 => ?_)
    refine A_bind (fz_T_keepBase w30 h_M_44) ?_
    rintro M_48 h_M_48
    try dsimp only at h_M_48
    try dsimp only
    refine A_T (fun t_50 ht_50 => ?_)
    refine A_chk (fun hchk => ?_)
    refine A_ltM (fr_cpy (wT8 t_50 ht_50) h_M_48) (fun M_57 h_M_57 => ?_)
    refine A_lt (fun l1_58 => ?_)
    exact A_some h_M_57
  ·
    exact A_some h_M_31
theorem fz_N_settle {P : Nat → Nat → Prop} {M0 M : Mem}  (wT0_6 : ∀ t, isT t → ¬ P t 6) (wT0_7 : ∀ t, isT t → ¬ P t 7) (w31 : ∀ k, ¬ P 31 k) (w30 : ∀ k, ¬ P 30 k) (wT9 : ∀ t, isT t → ∀ k, ¬ P (t + 9) k) (wT8 : ∀ t, isT t → ∀ k, ¬ P (t + 8) k) (wT10 : ∀ t, isT t → ∀ k, ¬ P (t + 10) k) (wT11 : ∀ t, isT t → ∀ k, ¬ P (t + 11) k) (h_M : fr P M0 M) : A (fr P M0) (N_settle M) := by
  unfold N_settle
  refine A_T (fun t_2 ht_2 => ?_)
  refine A_bT (fun x => ?_)
  try dsimp only
  refine A_ltM (fr_up (wT0_6 t_2 ht_2) h_M) (fun M_9 h_M_9 => ?_)
  refine A_bind (fz_N_fillLaw wT0_7 w31 h_M_9) ?_
  rintro M_10 h_M_10
  try dsimp only at h_M_10
  try dsimp only
  refine A_bind (fz_N_fillRows w30 wT9 h_M_10) ?_
  rintro M_11 h_M_11
  try dsimp only at h_M_11
  try dsimp only
  refine A_bind (J := (fr P M0)) (A_it (I := (fun r => fr P M0 r.2)) (fun x hx => fz_N_settle_b46 wT8 x hx) h_M_11) ?_
  rintro M_20 h_M_20
  try dsimp only at h_M_20
  try dsimp only
  refine A_bind (J := (fr P M0)) (A_it (I := (fun r => fr P M0 r.2)) (fun x hx => fz_N_settle_b81 w30 wT8 x hx) h_M_20) ?_
  rintro M_38 h_M_38
  try dsimp only at h_M_38
  try dsimp only
  refine A_bind (fz_N_fillRows w30 wT9 h_M_38) ?_
  rintro M_60 h_M_60
  try dsimp only at h_M_60
  try dsimp only
  refine A_T (fun t_62 ht_62 => ?_)
  refine A_bind (fz_T_fillAnswers (wT10 t_62 ht_62) (wT11 t_62 ht_62) h_M_60) ?_
  rintro M_64 h_M_64
  try dsimp only at h_M_64
  try dsimp only
  exact A_some h_M_64
theorem fz_X_putFour_b3 {P : Nat → Nat → Prop} {M0 : Mem} {number : Int} (w2 : ∀ k, ¬ P 2 k) (w1_1 : ¬ P 1 1) : ∀ x, (fun r => fr P M0 r.2) x → A (sK (fun r => fr P M0 r.2) (fr P M0)) (X_putFour_b3 number x) := by
  rintro ⟨l2_1, M_2⟩ h_M_2
  try dsimp only at h_M_2
  unfold X_putFour_b3
  try dsimp only
  refine A_ite (fun _ => ?_) (fun _ => ?_)
  ·
    refine A_chk (fun hchk => ?_)
    refine A_chk (fun hchk => ?_)
    refine A_ltM (fr_up (w2 _) h_M_2) (fun M_14 h_M_14 => ?_)
    refine A_ltM (fr_up w1_1 h_M_14) (fun M_15 h_M_15 => ?_)
    refine A_lt (fun l2_16 => ?_)
    exact A_some h_M_15
  ·
    exact A_some h_M_2
theorem fz_X_putFour {P : Nat → Nat → Prop} {M0 M : Mem} {number : Int} (w2 : ∀ k, ¬ P 2 k) (w1_1 : ¬ P 1 1) (h_M : fr P M0 M) : A (fr P M0) (X_putFour number M) := by
  unfold X_putFour
  refine A_bind (J := (fr P M0)) (A_it (I := (fun r => fr P M0 r.2)) (fun x hx => fz_X_putFour_b3 w2 w1_1 x hx) h_M) ?_
  rintro M_9 h_M_9
  try dsimp only at h_M_9
  try dsimp only
  exact A_some h_M_9
theorem fz_X_feed {P : Nat → Nat → Prop} {M0 M : Mem} {a : Int} {b : Int} {c : Int} {d : Int} {e : Int} (w2 : ∀ k, ¬ P 2 k) (w1_1 : ¬ P 1 1) (h_M : fr P M0 M) : A (fun r => fr P M0 r.2) (X_feed a b c d e M) := by
  unfold X_feed
  refine A_ite (fun _ => ?_) (fun _ => ?_)
  ·
    exact A_some h_M
  ·
    refine A_bind (fz_X_putFour w2 w1_1 h_M) ?_
    rintro M_1 h_M_1
    try dsimp only at h_M_1
    try dsimp only
    refine A_bind (fz_X_putFour w2 w1_1 h_M_1) ?_
    rintro M_2 h_M_2
    try dsimp only at h_M_2
    try dsimp only
    refine A_bind (fz_X_putFour w2 w1_1 h_M_2) ?_
    rintro M_3 h_M_3
    try dsimp only at h_M_3
    try dsimp only
    refine A_bind (fz_X_putFour w2 w1_1 h_M_3) ?_
    rintro M_4 h_M_4
    try dsimp only at h_M_4
    try dsimp only
    refine A_bind (fz_X_putFour w2 w1_1 h_M_4) ?_
    rintro M_5 h_M_5
    try dsimp only at h_M_5
    try dsimp only
    exact A_some h_M_5
theorem fz_X_end {P : Nat → Nat → Prop} {M0 M : Mem} {n_ : Int} (w1_1 : ¬ P 1 1) (h_M : fr P M0 M) : A (fun r => fr P M0 r.2) (X_end n_ M) := by
  unfold X_end
  refine A_ite (fun _ => ?_) (fun _ => ?_)
  ·
    exact A_some h_M
  ·
    refine A_ltM (fr_up w1_1 h_M) (fun M_1 h_M_1 => ?_)
    exact A_some h_M_1
theorem fz_X_town_b72 {P : Nat → Nat → Prop} {M0 : Mem}  (wS0_1 : ∀ s, isY s → ¬ P s 1) : ∀ x, (fun r => fr P M0 r.2) x → A (sK (fun r => fr P M0 r.2) (fr P M0)) (X_town_b72 x) := by
  rintro ⟨l3_17, M_18⟩ h_M_18
  try dsimp only at h_M_18
  unfold X_town_b72
  try dsimp only
  refine A_ite (fun _ => ?_) (fun _ => ?_)
  ·
    refine A_chk (fun hchk => ?_)
    refine A_ltE (fun s_28 es_28 => ?_)
    have hs_28 : isY s_28 := by unfold isY; omega
    refine A_ltM (fr_up (wS0_1 s_28 hs_28) h_M_18) (fun M_29 h_M_29 => ?_)
    refine A_lt (fun l3_30 => ?_)
    exact A_some h_M_29
  ·
    exact A_some h_M_18
theorem fz_X_town {P : Nat → Nat → Prop} {M0 M : Mem}  (w1_1 : ¬ P 1 1) (w27_16 : ¬ P 27 16) (wT0_0 : ∀ t, isT t → ¬ P t 0) (wT0_1 : ∀ t, isT t → ¬ P t 1) (wT0_2 : ∀ t, isT t → ¬ P t 2) (wT0_3 : ∀ t, isT t → ¬ P t 3) (wT0_4 : ∀ t, isT t → ¬ P t 4) (wT0_5 : ∀ t, isT t → ¬ P t 5) (wT3 : ∀ t, isT t → ∀ k, ¬ P (t + 3) k) (wT7 : ∀ t, isT t → ∀ k, ¬ P (t + 7) k) (w28_1 : ¬ P 28 1) (w27_10 : ¬ P 27 10) (w27_13 : ¬ P 27 13) (w40_2 : ¬ P 40 2) (w40_3 : ¬ P 40 3) (w40_8 : ¬ P 40 8) (w40_9 : ¬ P 40 9) (w40_4 : ¬ P 40 4) (w40_5 : ¬ P 40 5) (w40_7 : ¬ P 40 7) (w40_6 : ¬ P 40 6) (w32 : ∀ k, ¬ P 32 k) (w33 : ∀ k, ¬ P 33 k) (wT1 : ∀ t, isT t → ∀ k, ¬ P (t + 1) k) (wT2 : ∀ t, isT t → ∀ k, ¬ P (t + 2) k) (w27_14 : ¬ P 27 14) (w27_15 : ¬ P 27 15) (w29 : ∀ k, ¬ P 29 k) (w34 : ∀ k, ¬ P 34 k) (w35 : ∀ k, ¬ P 35 k) (w36 : ∀ k, ¬ P 36 k) (w37 : ∀ k, ¬ P 37 k) (w38 : ∀ k, ¬ P 38 k) (w39 : ∀ k, ¬ P 39 k) (wT4 : ∀ t, isT t → ∀ k, ¬ P (t + 4) k) (wT5 : ∀ t, isT t → ∀ k, ¬ P (t + 5) k) (wT6 : ∀ t, isT t → ∀ k, ¬ P (t + 6) k) (w27_11 : ¬ P 27 11) (w27_12 : ¬ P 27 12) (wT0_6 : ∀ t, isT t → ¬ P t 6) (wT0_7 : ∀ t, isT t → ¬ P t 7) (w31 : ∀ k, ¬ P 31 k) (w30 : ∀ k, ¬ P 30 k) (wT9 : ∀ t, isT t → ∀ k, ¬ P (t + 9) k) (wT8 : ∀ t, isT t → ∀ k, ¬ P (t + 8) k) (wT10 : ∀ t, isT t → ∀ k, ¬ P (t + 10) k) (wT11 : ∀ t, isT t → ∀ k, ¬ P (t + 11) k) (w1_2 : ¬ P 1 2) (w1_3 : ¬ P 1 3) (w42_0 : ¬ P 42 0) (wS0_1 : ∀ s, isY s → ¬ P s 1) (h_M : fr P M0 M) : A (fun r => fr P M0 r.2) (X_town M) := by
  unfold X_town
  refine A_lt (fun l1_1 => ?_)
  refine A_ltM (fr_up w1_1 h_M) (fun M_2 h_M_2 => ?_)
  refine A_T (fun t_4 ht_4 => ?_)
  refine A_bind (fz_N_readInto w27_16 wT0_0 wT0_1 wT0_2 wT0_3 wT0_4 wT0_5 wT3 wT7 w28_1 w27_10 w27_13 w40_2 w40_3 w40_8 w40_9 w40_4 w40_5 w40_7 w40_6 w32 w33 wT1 wT2 w27_14 w27_15 w29 w34 w35 w36 w37 w38 w39 wT4 wT5 wT6 w27_11 w27_12 h_M_2) ?_
  rintro M_6 h_M_6
  try dsimp only at h_M_6
  try dsimp only
  refine A_ite (fun _ => ?_) (fun _ => ?_)
  ·
    exact A_some h_M_6
  ·
    refine A_bind (fz_N_settle wT0_6 wT0_7 w31 w30 wT9 wT8 wT10 wT11 h_M_6) ?_
    rintro M_7 h_M_7
    try dsimp only at h_M_7
    try dsimp only
    refine A_T (fun t_9 ht_9 => ?_)
    refine A_T (fun t_12 ht_12 => ?_)
    refine A_ltM (fr_up w1_2 h_M_7) (fun M_14 h_M_14 => ?_)
    refine A_ltM (fr_up w1_3 h_M_14) (fun M_15 h_M_15 => ?_)
    refine A_ltM (fr_up w42_0 h_M_15) (fun M_16 h_M_16 => ?_)
    refine A_bind (J := (fr P M0)) (A_it (I := (fun r => fr P M0 r.2)) (fun x hx => fz_X_town_b72 wS0_1 x hx) h_M_16) ?_
    rintro M_25 h_M_25
    try dsimp only at h_M_25
    try dsimp only
    refine A_T (fun t_33 ht_33 => ?_)
    refine A_bT (fun x => ?_)
    try dsimp only
    exact A_some h_M_25
theorem fz_T_putSayable_b60 {P : Nat → Nat → Prop} {M0 : Mem} {t : Nat} {surely : Int} {to_ : Nat} {at_ : Int} {r_28 : Int} (wto_0 : ∀ k, ¬ P to_ k) : ∀ x, (fun r => fr P M0 r.2) x → A (sK (fun r => fr P M0 r.2) (fr P M0)) (T_putSayable_b60 t surely to_ at_ r_28 x) := by
  rintro ⟨l9_29, M_30⟩ h_M_30
  try dsimp only at h_M_30
  unfold T_putSayable_b60
  try dsimp only
  refine A_ite (fun _ => ?_) (fun _ => ?_)
  ·
    refine A_chk (fun hchk => ?_)
    refine A_bT (fun x => ?_)
    try dsimp only
    refine A_ltM (fr_up (wto_0 _) h_M_30) (fun M_54 h_M_54 => ?_)
    refine A_lt (fun l9_55 => ?_)
    exact A_some h_M_54
  ·
    exact A_some h_M_30
theorem fz_T_putSayable_b31 {P : Nat → Nat → Prop} {M0 : Mem} {t : Nat} {bits : Int} {row : Int} {surely : Int} {to_ : Nat} {at_ : Int} (wto_0 : ∀ k, ¬ P to_ k) : ∀ x, (fun r => fr P M0 r.2) x → A (sK (fun r => fr P M0 r.2) (fr P M0)) (T_putSayable_b31 t bits row surely to_ at_ x) := by
  rintro ⟨l7_14, M_15⟩ h_M_15
  try dsimp only at h_M_15
  unfold T_putSayable_b31
  try dsimp only
  refine A_ite (fun _ => ?_) (fun _ => ?_)
  ·
    refine A_bT (fun x => ?_)
    try dsimp only
    refine A_bind (J := (fr P M0)) ?_ ?_
    ·
      refine A_ite (fun _ => ?_) (fun _ => ?_)
      ·
        refine A_bT (fun x => ?_)
        try dsimp only
        refine A_bind (J := (fr P M0)) (A_it (I := (fun r => fr P M0 r.2)) (fun x hx => fz_T_putSayable_b60 wto_0 x hx) h_M_15) ?_
        rintro M_37 h_M_37
        try dsimp only at h_M_37
        try dsimp only
        exact A_some h_M_37
      ·
        exact A_some h_M_15
    rintro M_24 h_M_24
    try dsimp only at h_M_24
    try dsimp only
    refine A_lt (fun l7_58 => ?_)
    exact A_some h_M_24
  ·
    exact A_some h_M_15
theorem fz_T_putSayable {P : Nat → Nat → Prop} {M0 M : Mem} {t : Nat} {bits : Int} {row : Int} {apart : Int} {surely : Int} {to_ : Nat} {at_ : Int} (wto_0 : ∀ k, ¬ P to_ k) (h_M : fr P M0 M) : A (fr P M0) (T_putSayable t bits row apart surely to_ at_ M) := by
  unfold T_putSayable
  refine A_chk (fun hchk => ?_)
  refine A_ltM (fr_cpy wto_0 h_M) (fun M_7 h_M_7 => ?_)
  refine A_bT (fun x => ?_)
  try dsimp only
  refine A_ite (fun _ => ?_) (fun _ => ?_)
  ·
    exact A_some h_M_7
  ·
    refine A_bind (J := (fr P M0)) (A_it (I := (fun r => fr P M0 r.2)) (fun x hx => fz_T_putSayable_b31 wto_0 x hx) h_M_7) ?_
    rintro M_22 h_M_22
    try dsimp only at h_M_22
    try dsimp only
    exact A_some h_M_22
theorem fz_X_may {P : Nat → Nat → Prop} {M0 M : Mem} {persons : Int} {row : Int} {apart : Int} {surely : Int} {world : Int} (w80 : ∀ k, ¬ P 80 k) (h_M : fr P M0 M) : A (fun r => fr P M0 r.2) (X_may persons row apart surely world M) := by
  unfold X_may
  refine A_T (fun t_2 ht_2 => ?_)
  refine A_bT (fun x => ?_)
  try dsimp only
  refine A_bT (fun x => ?_)
  try dsimp only
  refine A_ite (fun _ => ?_) (fun _ => ?_)
  ·
    exact A_some h_M
  ·
    refine A_bind (fz_T_putSayable w80 h_M) ?_
    rintro M_11 h_M_11
    try dsimp only at h_M_11
    try dsimp only
    refine A_bT (fun x => ?_)
    try dsimp only
    refine A_ite (fun _ => ?_) (fun _ => ?_)
    ·
      exact A_some h_M_11
    ·
      exact A_some h_M_11
theorem fz_Y_add {P : Nat → Nat → Prop} {M0 M : Mem} {s : Nat} {who : Int} {row : Int} {isSure : Int} {time : Int} (ws1 : ∀ k, ¬ P (s + 1) k) (ws2 : ∀ k, ¬ P (s + 2) k) (ws3 : ∀ k, ¬ P (s + 3) k) (ws4 : ∀ k, ¬ P (s + 4) k) (ws5 : ∀ k, ¬ P (s + 5) k) (ws0_0 : ¬ P s 0) (h_M : fr P M0 M) : A (fr P M0) (Y_add s who row isSure time M) := by
  unfold Y_add
  refine A_chk (fun hchk => ?_)
  refine A_ltM (fr_up (ws1 _) h_M) (fun M_3 h_M_3 => ?_)
  refine A_chk (fun hchk => ?_)
  refine A_ltM (fr_up (ws2 _) h_M_3) (fun M_6 h_M_6 => ?_)
  refine A_chk (fun hchk => ?_)
  refine A_chk (fun hchk => ?_)
  refine A_ltM (fr_up (ws3 _) h_M_6) (fun M_10 h_M_10 => ?_)
  refine A_chk (fun hchk => ?_)
  refine A_ltM (fr_up (ws4 _) h_M_10) (fun M_13 h_M_13 => ?_)
  refine A_chk (fun hchk => ?_)
  refine A_ltM (fr_up (ws5 _) h_M_13) (fun M_16 h_M_16 => ?_)
  refine A_ltM (fr_up ws0_0 h_M_16) (fun M_17 h_M_17 => ?_)
  exact A_some h_M_17
theorem fz_X_say {P : Nat → Nat → Prop} {M0 M : Mem} {persons : Int} {row : Int} {apart : Int} {surely : Int} (w43 : ∀ k, ¬ P 43 k) (w44 : ∀ k, ¬ P 44 k) (w45 : ∀ k, ¬ P 45 k) (w46 : ∀ k, ¬ P 46 k) (w47 : ∀ k, ¬ P 47 k) (w42_0 : ¬ P 42 0) (w48 : ∀ k, ¬ P 48 k) (h_M : fr P M0 M) : A (fun r => fr P M0 r.2) (X_say persons row apart surely M) := by
  unfold X_say
  refine A_lt (fun l5_1 => ?_)
  refine A_T (fun t_3 ht_3 => ?_)
  refine A_bT (fun x => ?_)
  try dsimp only
  refine A_bT (fun x => ?_)
  try dsimp only
  refine A_ite (fun _ => ?_) (fun _ => ?_)
  ·
    exact A_some h_M
  ·
    refine A_bind (fz_Y_add w43 w44 w45 w46 w47 w42_0 h_M) ?_
    rintro M_12 h_M_12
    try dsimp only at h_M_12
    try dsimp only
    refine A_T (fun t_14 ht_14 => ?_)
    refine A_bind (fz_T_putSayable w48 h_M_12) ?_
    rintro M_16 h_M_16
    try dsimp only at h_M_16
    try dsimp only
    exact A_some h_M_16
theorem fz_X_untell {P : Nat → Nat → Prop} {M0 M : Mem} {saying : Int} (w47 : ∀ k, ¬ P 47 k) (h_M : fr P M0 M) : A (fun r => fr P M0 r.2) (X_untell saying M) := by
  unfold X_untell
  refine A_bT (fun x => ?_)
  try dsimp only
  refine A_ite (fun _ => ?_) (fun _ => ?_)
  ·
    exact A_some h_M
  ·
    refine A_chk (fun hchk => ?_)
    refine A_ltM (fr_up (w47 _) h_M) (fun M_10 h_M_10 => ?_)
    exact A_some h_M_10
theorem fz_X_later {P : Nat → Nat → Prop} {M0 M : Mem} {by_ : Int} (w1_12 : ¬ P 1 12) (h_M : fr P M0 M) : A (fun r => fr P M0 r.2) (X_later by_ M) := by
  unfold X_later
  refine A_ite (fun _ => ?_) (fun _ => ?_)
  ·
    exact A_some h_M
  ·
    refine A_ltM (fr_up w1_12 h_M) (fun M_1 h_M_1 => ?_)
    exact A_some h_M_1
theorem fz_W_look_b90 {P : Nat → Nat → Prop} {M0 : Mem} {l4_13 : Int} (w73 : ∀ k, ¬ P 73 k) : ∀ x, (fun r => fr P M0 r.2) x → A (sK (fun r => fr P M0 r.2) (fr P M0)) (W_look_b90 l4_13 x) := by
  rintro ⟨l5_32, M_33⟩ h_M_33
  try dsimp only at h_M_33
  unfold W_look_b90
  try dsimp only
  refine A_T (fun t_42 ht_42 => ?_)
  refine A_ite (fun _ => ?_) (fun _ => ?_)
  ·
    refine A_chk (fun hchk => ?_)
    refine A_chk (fun hchk => ?_)
    refine A_chk (fun hchk => ?_)
    refine A_ltM (fr_up (w73 _) h_M_33) (fun M_49 h_M_49 => ?_)
    refine A_lt (fun l5_50 => ?_)
    exact A_some h_M_49
  ·
    exact A_some h_M_33
theorem fz_W_look_b41 {P : Nat → Nat → Prop} {M0 : Mem} {k : Int} (w72 : ∀ k, ¬ P 72 k) (w71_3 : ¬ P 71 3) (w73 : ∀ k, ¬ P 73 k) : ∀ x, (fun r => fr P M0 r.2) x → A (sK (fun r => fr P M0 r.2) (fr P M0)) (W_look_b41 k x) := by
  rintro ⟨l4_13, M_14⟩ h_M_14
  try dsimp only at h_M_14
  unfold W_look_b41
  try dsimp only
  refine A_chk (fun hchk => ?_)
  refine A_ite (fun _ => ?_) (fun _ => ?_)
  ·
    refine A_bT (fun x => ?_)
    try dsimp only
    refine A_bind (J := (fr P M0)) ?_ ?_
    ·
      refine A_ite (fun _ => ?_) (fun _ => ?_)
      ·
        refine A_chk (fun hchk => ?_)
        refine A_ltM (fr_up (w72 _) h_M_14) (fun M_30 h_M_30 => ?_)
        refine A_ltM (fr_up w71_3 h_M_30) (fun M_31 h_M_31 => ?_)
        refine A_bind (J := (fr P M0)) (A_it (I := (fun r => fr P M0 r.2)) (fun x hx => fz_W_look_b90 w73 x hx) h_M_31) ?_
        rintro M_40 h_M_40
        try dsimp only at h_M_40
        try dsimp only
        exact A_some h_M_40
      ·
        exact A_some h_M_14
    rintro M_24 h_M_24
    try dsimp only at h_M_24
    try dsimp only
    refine A_lt (fun l4_53 => ?_)
    exact A_some h_M_24
  ·
    exact A_some h_M_14
theorem fz_W_look {P : Nat → Nat → Prop} {M0 M : Mem} {tat_ : Nat} {k : Int} (w71_0 : ¬ P 71 0) (w71_1 : ¬ P 71 1) (w71_3 : ¬ P 71 3) (w73 : ∀ k, ¬ P 73 k) (w72 : ∀ k, ¬ P 72 k) (w71_5 : ¬ P 71 5) (h_M : fr P M0 M) : A (fr P M0) (W_look tat_ k M) := by
  unfold W_look
  refine A_ltM (fr_up w71_0 h_M) (fun M_1 h_M_1 => ?_)
  refine A_ltM (fr_up w71_1 h_M_1) (fun M_2 h_M_2 => ?_)
  refine A_ltM (fr_up w71_3 h_M_2) (fun M_3 h_M_3 => ?_)
  refine A_T (fun t_5 ht_5 => ?_)
  refine A_chk (fun hchk => ?_)
  refine A_ltM (fr_cpy w73 h_M_3) (fun M_12 h_M_12 => ?_)
  refine A_bind (J := (fr P M0)) (A_it (I := (fun r => fr P M0 r.2)) (fun x hx => fz_W_look_b41 w72 w71_3 w73 x hx) h_M_12) ?_
  rintro M_21 h_M_21
  try dsimp only at h_M_21
  try dsimp only
  refine A_T (fun t_56 ht_56 => ?_)
  refine A_bT (fun x => ?_)
  try dsimp only
  refine A_ltM (fr_up w71_5 h_M_21) (fun M_59 h_M_59 => ?_)
  exact A_some h_M_59
theorem fz_X_left {P : Nat → Nat → Prop} {M0 M : Mem} {k : Int} (w71_0 : ¬ P 71 0) (w71_1 : ¬ P 71 1) (w71_3 : ¬ P 71 3) (w73 : ∀ k, ¬ P 73 k) (w72 : ∀ k, ¬ P 72 k) (w71_5 : ¬ P 71 5) (h_M : fr P M0 M) : A (fun r => fr P M0 r.2) (X_left k M) := by
  unfold X_left
  refine A_T (fun t_2 ht_2 => ?_)
  refine A_bind (fz_W_look w71_0 w71_1 w71_3 w73 w72 w71_5 h_M) ?_
  rintro M_4 h_M_4
  try dsimp only at h_M_4
  try dsimp only
  exact A_some h_M_4
theorem fz_X_world_b38 {P : Nat → Nat → Prop} {M0 : Mem} {i : Int} {M_4 : Mem}  (h_M_4 : fr P M0 M_4) : ∀ x, A (sK (fun _ => True) (sK (fun _ => True) (fun r => fr P M0 r.2))) (X_world_b38 i M_4 x) := by
  rintro ⟨l3_5, l4_6⟩
  unfold X_world_b38
  try dsimp only
  refine A_T (fun t_14 ht_14 => ?_)
  refine A_ite (fun _ => ?_) (fun _ => ?_)
  ·
    refine A_bT (fun x => ?_)
    try dsimp only
    refine A_jn (J := fun _ => True) (fun _ _ => ?_) (fun j_18 hj_18 => ?_)
    ·
      refine A_lt (fun l4_24 => ?_)
      exact A_some trivial
    refine A_ite (fun _ => ?_) (fun _ => ?_)
    ·
      refine A_ite (fun _ => ?_) (fun _ => ?_)
      ·
        exact A_some h_M_4
      ·
        refine A_lt (fun l3_21 => ?_)
        exact hj_18 _ trivial
    ·
      exact hj_18 _ trivial
  ·
    exact A_some trivial
theorem fz_X_world {P : Nat → Nat → Prop} {M0 M : Mem} {i : Int} {k : Int} (w71_0 : ¬ P 71 0) (w71_1 : ¬ P 71 1) (w71_3 : ¬ P 71 3) (w73 : ∀ k, ¬ P 73 k) (w72 : ∀ k, ¬ P 72 k) (w71_5 : ¬ P 71 5) (h_M : fr P M0 M) : A (fun r => fr P M0 r.2) (X_world i k M) := by
  unfold X_world
  refine A_T (fun t_2 ht_2 => ?_)
  refine A_bind (fz_W_look w71_0 w71_1 w71_3 w73 w72 w71_5 h_M) ?_
  rintro M_4 h_M_4
  try dsimp only at h_M_4
  try dsimp only
  refine A_ite (fun _ => ?_) (fun _ => ?_)
  ·
    exact A_some h_M_4
  ·
    refine A_bind (J := (sK (fun _ => True) (fun r => fr P M0 r.2))) (A_it (I := fun _ => True) (fun x _ => fz_X_world_b38 h_M_4 x) trivial) ?_
    rintro (x | x) hx
    ·
      exact A_some h_M_4
    · exact A_some hx
theorem fz_X_sure {P : Nat → Nat → Prop} {M0 M : Mem} {row : Int} {k : Int} (w71_0 : ¬ P 71 0) (w71_1 : ¬ P 71 1) (w71_3 : ¬ P 71 3) (w73 : ∀ k, ¬ P 73 k) (w72 : ∀ k, ¬ P 72 k) (w71_5 : ¬ P 71 5) (h_M : fr P M0 M) : A (fun r => fr P M0 r.2) (X_sure row k M) := by
  unfold X_sure
  refine A_T (fun t_2 ht_2 => ?_)
  refine A_bind (fz_W_look w71_0 w71_1 w71_3 w73 w72 w71_5 h_M) ?_
  rintro M_4 h_M_4
  try dsimp only at h_M_4
  try dsimp only
  refine A_T (fun t_6 ht_6 => ?_)
  refine A_bT (fun x => ?_)
  try dsimp only
  refine A_ite (fun _ => ?_) (fun _ => ?_)
  ·
    exact A_some h_M_4
  ·
    refine A_bT (fun x => ?_)
    try dsimp only
    refine A_ite (fun _ => ?_) (fun _ => ?_)
    ·
      exact A_some h_M_4
    ·
      refine A_ite (fun _ => ?_) (fun _ => ?_)
      ·
        exact A_some h_M_4
      ·
        exact A_some h_M_4
theorem fz_X_proof {P : Nat → Nat → Prop} {M0 M : Mem} {row : Int} {k : Int} (w71_0 : ¬ P 71 0) (w71_1 : ¬ P 71 1) (w71_3 : ¬ P 71 3) (w73 : ∀ k, ¬ P 73 k) (w72 : ∀ k, ¬ P 72 k) (w71_5 : ¬ P 71 5) (h_M : fr P M0 M) : A (fun r => fr P M0 r.2) (X_proof row k M) := by
  unfold X_proof
  refine A_T (fun t_2 ht_2 => ?_)
  refine A_bind (fz_W_look w71_0 w71_1 w71_3 w73 w72 w71_5 h_M) ?_
  rintro M_4 h_M_4
  try dsimp only at h_M_4
  try dsimp only
  refine A_T (fun t_6 ht_6 => ?_)
  refine A_bT (fun x => ?_)
  try dsimp only
  refine A_bT (fun x => ?_)
  try dsimp only
  refine A_ite (fun _ => ?_) (fun _ => ?_)
  ·
    exact A_some h_M_4
  ·
    refine A_ite (fun _ => ?_) (fun _ => ?_)
    ·
      exact A_some h_M_4
    ·
      refine A_bT (fun x => ?_)
      try dsimp only
      exact A_some h_M_4
theorem fz_X_judge_b32 {P : Nat → Nat → Prop} {M0 : Mem} {world : Int} {M_5 : Mem}  (h_M_5 : fr P M0 M_5) : ∀ x, A (sK (fun _ => True) (sK (fun _ => True) (fun r => fr P M0 r.2))) (X_judge_b32 world M_5 x) := by
  rintro l3_6
  unfold X_judge_b32
  try dsimp only
  refine A_ite (fun _ => ?_) (fun _ => ?_)
  ·
    refine A_chk (fun hchk => ?_)
    refine A_lt (fun l4_15 => ?_)
    refine A_bT (fun x => ?_)
    try dsimp only
    refine A_ite (fun _ => ?_) (fun _ => ?_)
    ·
      exact A_some h_M_5
    ·
      refine A_lt (fun l3_17 => ?_)
      exact A_some trivial
  ·
    exact A_some trivial
theorem fz_X_judge {P : Nat → Nat → Prop} {M0 M : Mem} {world : Int} {k : Int} (w71_0 : ¬ P 71 0) (w71_1 : ¬ P 71 1) (w71_3 : ¬ P 71 3) (w73 : ∀ k, ¬ P 73 k) (w72 : ∀ k, ¬ P 72 k) (w71_5 : ¬ P 71 5) (h_M : fr P M0 M) : A (fun r => fr P M0 r.2) (X_judge world k M) := by
  unfold X_judge
  refine A_T (fun t_2 ht_2 => ?_)
  refine A_bT (fun x => ?_)
  try dsimp only
  refine A_ite (fun _ => ?_) (fun _ => ?_)
  ·
    exact A_some h_M
  ·
    refine A_bind (fz_W_look w71_0 w71_1 w71_3 w73 w72 w71_5 h_M) ?_
    rintro M_5 h_M_5
    try dsimp only at h_M_5
    try dsimp only
    refine A_bind (J := (sK (fun _ => True) (fun r => fr P M0 r.2))) (A_it (I := fun _ => True) (fun x _ => fz_X_judge_b32 h_M_5 x) trivial) ?_
    rintro (x | x) hx
    ·
      exact A_some h_M_5
    · exact A_some hx
theorem fz_A_choose_b26 {P : Nat → Nat → Prop} {M0 : Mem} {l3_3 : Int} (w74_1 : ¬ P 74 1) (w74_2 : ¬ P 74 2) (w74_3 : ¬ P 74 3) : ∀ x, (fun r => fr P M0 r.2) x → A (sK (fun r => fr P M0 r.2) (fr P M0)) (A_choose_b26 l3_3 x) := by
  rintro ⟨l4_15, M_16⟩ h_M_16
  try dsimp only at h_M_16
  unfold A_choose_b26
  try dsimp only
  refine A_T (fun t_25 ht_25 => ?_)
  refine A_ite (fun _ => ?_) (fun _ => ?_)
  ·
    refine A_bT (fun x => ?_)
    try dsimp only
    refine A_bT (fun x => ?_)
    try dsimp only
    refine A_bT (fun x => ?_)
    try dsimp only
    refine A_lt (fun l8_30 => ?_)
    refine A_bind (J := (fr P M0)) ?_ ?_
    ·
      refine A_jn (J := fun _ => True) (fun _ _ => ?_) (fun j_35 hj_35 => ?_)
      ·
        refine A_ltM (fr_up w74_1 h_M_16) (fun M_53 h_M_53 => ?_)
        refine A_ltM (fr_up w74_2 h_M_53) (fun M_54 h_M_54 => ?_)
        refine A_ltM (fr_up w74_3 h_M_54) (fun M_55 h_M_55 => ?_)
        exact A_some h_M_55
      refine A_ite (fun _ => ?_) (fun _ => ?_)
      ·
        refine A_bT (fun x => ?_)
        try dsimp only
        refine A_ite (fun _ => ?_) (fun _ => ?_)
        ·
          exact hj_35 _ trivial
        ·
          exact A_some h_M_16
      ·
        exact hj_35 _ trivial
    rintro M_31 h_M_31
    try dsimp only at h_M_31
    try dsimp only
    refine A_lt (fun l4_56 => ?_)
    exact A_some h_M_31
  ·
    exact A_some h_M_16
theorem fz_A_choose_b12 {P : Nat → Nat → Prop} {M0 : Mem}  (w74_1 : ¬ P 74 1) (w74_2 : ¬ P 74 2) (w74_3 : ¬ P 74 3) : ∀ x, (fun r => fr P M0 r.2) x → A (sK (fun r => fr P M0 r.2) (fr P M0)) (A_choose_b12 x) := by
  rintro ⟨l3_3, M_4⟩ h_M_4
  try dsimp only at h_M_4
  unfold A_choose_b12
  try dsimp only
  refine A_T (fun t_13 ht_13 => ?_)
  refine A_ite (fun _ => ?_) (fun _ => ?_)
  ·
    refine A_bind (J := (fr P M0)) (A_it (I := (fun r => fr P M0 r.2)) (fun x hx => fz_A_choose_b26 w74_1 w74_2 w74_3 x hx) h_M_4) ?_
    rintro M_23 h_M_23
    try dsimp only at h_M_23
    try dsimp only
    refine A_lt (fun l3_58 => ?_)
    exact A_some h_M_23
  ·
    exact A_some h_M_4
theorem fz_A_choose {P : Nat → Nat → Prop} {M0 M : Mem} {tat_ : Nat} (w74_0 : ¬ P 74 0) (w74_1 : ¬ P 74 1) (w74_2 : ¬ P 74 2) (w74_3 : ¬ P 74 3) (h_M : fr P M0 M) : A (fr P M0) (A_choose tat_ M) := by
  unfold A_choose
  refine A_ltM (fr_up w74_0 h_M) (fun M_1 h_M_1 => ?_)
  refine A_ltM (fr_up w74_1 h_M_1) (fun M_2 h_M_2 => ?_)
  refine A_bind (J := (fr P M0)) (A_it (I := (fun r => fr P M0 r.2)) (fun x hx => fz_A_choose_b12 w74_1 w74_2 w74_3 x hx) h_M_2) ?_
  rintro M_11 h_M_11
  try dsimp only at h_M_11
  try dsimp only
  exact A_some h_M_11
theorem fz_X_next {P : Nat → Nat → Prop} {M0 M : Mem} {what : Int} {k : Int} (w71_0 : ¬ P 71 0) (w71_1 : ¬ P 71 1) (w71_3 : ¬ P 71 3) (w73 : ∀ k, ¬ P 73 k) (w72 : ∀ k, ¬ P 72 k) (w71_5 : ¬ P 71 5) (w74_0 : ¬ P 74 0) (w74_1 : ¬ P 74 1) (w74_2 : ¬ P 74 2) (w74_3 : ¬ P 74 3) (h_M : fr P M0 M) : A (fun r => fr P M0 r.2) (X_next what k M) := by
  unfold X_next
  refine A_T (fun t_2 ht_2 => ?_)
  refine A_bind (fz_W_look w71_0 w71_1 w71_3 w73 w72 w71_5 h_M) ?_
  rintro M_4 h_M_4
  try dsimp only at h_M_4
  try dsimp only
  refine A_bT (fun x => ?_)
  try dsimp only
  refine A_ite (fun _ => ?_) (fun _ => ?_)
  ·
    exact A_some h_M_4
  ·
    refine A_T (fun t_14 ht_14 => ?_)
    refine A_bind (fz_A_choose w74_0 w74_1 w74_2 w74_3 h_M_4) ?_
    rintro M_16 h_M_16
    try dsimp only at h_M_16
    try dsimp only
    refine A_ite (fun _ => ?_) (fun _ => ?_)
    ·
      exact A_some h_M_16
    ·
      refine A_ite (fun _ => ?_) (fun _ => ?_)
      ·
        exact A_some h_M_16
      ·
        exact A_some h_M_16
theorem fz_A_split_b2 {P : Nat → Nat → Prop} {M0 : Mem} {place : Int} (w75 : ∀ k, ¬ P 75 k) : ∀ x, (fun r => fr P M0 r.2) x → A (sK (fun r => fr P M0 r.2) (fr P M0)) (A_split_b2 place x) := by
  rintro ⟨l2_1, M_2⟩ h_M_2
  try dsimp only at h_M_2
  unfold A_split_b2
  try dsimp only
  refine A_T (fun t_11 ht_11 => ?_)
  refine A_ite (fun _ => ?_) (fun _ => ?_)
  ·
    refine A_chk (fun hchk => ?_)
    refine A_chk (fun hchk => ?_)
    refine A_lt (fun l3_17 => ?_)
    refine A_lt (fun l5_18 => ?_)
    refine A_chk (fun hchk => ?_)
    refine A_ltM (fr_up (w75 _) h_M_2) (fun M_21 h_M_21 => ?_)
    refine A_chk (fun hchk => ?_)
    refine A_ltM (fr_up (w75 _) h_M_21) (fun M_24 h_M_24 => ?_)
    refine A_chk (fun hchk => ?_)
    refine A_ltM (fr_up (w75 _) h_M_24) (fun M_27 h_M_27 => ?_)
    refine A_lt (fun l2_28 => ?_)
    exact A_some h_M_27
  ·
    exact A_some h_M_2
theorem fz_A_split {P : Nat → Nat → Prop} {M0 M : Mem} {place : Int} (w75 : ∀ k, ¬ P 75 k) (h_M : fr P M0 M) : A (fr P M0) (A_split place M) := by
  unfold A_split
  refine A_bind (J := (fr P M0)) (A_it (I := (fun r => fr P M0 r.2)) (fun x hx => fz_A_split_b2 w75 x hx) h_M) ?_
  rintro M_9 h_M_9
  try dsimp only at h_M_9
  try dsimp only
  exact A_some h_M_9
theorem fz_A_twoAreEnough_b15 {P : Nat → Nat → Prop} {M0 : Mem} {l1_1 : Int} (w75 : ∀ k, ¬ P 75 k) : ∀ x, (fun r => fr P M0 r.2) x → A (sK (fun r => fr P M0 r.2) (sK (fr P M0) (fun r => fr P M0 r.2))) (A_twoAreEnough_b15 l1_1 x) := by
  rintro ⟨l2_13, M_14⟩ h_M_14
  try dsimp only at h_M_14
  unfold A_twoAreEnough_b15
  try dsimp only
  refine A_T (fun t_23 ht_23 => ?_)
  refine A_ite (fun _ => ?_) (fun _ => ?_)
  ·
    refine A_bT (fun x => ?_)
    try dsimp only
    refine A_bind (fz_A_split w75 h_M_14) ?_
    rintro M_26 h_M_26
    try dsimp only at h_M_26
    try dsimp only
    refine A_bT (fun x => ?_)
    try dsimp only
    refine A_ite (fun _ => ?_) (fun _ => ?_)
    ·
      exact A_some h_M_26
    ·
      refine A_lt (fun l2_28 => ?_)
      exact A_some h_M_26
  ·
    exact A_some h_M_14
theorem fz_A_twoAreEnough_b2 {P : Nat → Nat → Prop} {M0 : Mem}  (w75 : ∀ k, ¬ P 75 k) : ∀ x, (fun r => fr P M0 r.2) x → A (sK (fun r => fr P M0 r.2) (sK (fr P M0) (fun r => fr P M0 r.2))) (A_twoAreEnough_b2 x) := by
  rintro ⟨l1_1, M_2⟩ h_M_2
  try dsimp only at h_M_2
  unfold A_twoAreEnough_b2
  try dsimp only
  refine A_T (fun t_11 ht_11 => ?_)
  refine A_ite (fun _ => ?_) (fun _ => ?_)
  ·
    refine A_bind (J := (sK (fr P M0) (fun r => fr P M0 r.2))) (A_it (I := (fun r => fr P M0 r.2)) (fun x hx => fz_A_twoAreEnough_b15 w75 x hx) h_M_2) ?_
    rintro (x | x) hx
    ·
      have h_M_21 : fr P M0 x := hx
      refine A_lt (fun l1_31 => ?_)
      exact A_some h_M_21
    · exact A_some hx
  ·
    exact A_some h_M_2
theorem fz_A_twoAreEnough {P : Nat → Nat → Prop} {M0 M : Mem}  (w75 : ∀ k, ¬ P 75 k) (h_M : fr P M0 M) : A (fun r => fr P M0 r.2) (A_twoAreEnough M) := by
  unfold A_twoAreEnough
  refine A_bind (J := (sK (fr P M0) (fun r => fr P M0 r.2))) (A_it (I := (fun r => fr P M0 r.2)) (fun x hx => fz_A_twoAreEnough_b2 w75 x hx) h_M) ?_
  rintro (x | x) hx
  ·
    have h_M_9 : fr P M0 x := hx
    exact A_some h_M_9
  · exact A_some hx
theorem fz_A_countAskings {P : Nat → Nat → Prop} {M0 M : Mem} {tat_ : Nat} {about : Int} (w74_0 : ¬ P 74 0) (w74_4 : ¬ P 74 4) (w75 : ∀ k, ¬ P 75 k) (h_M : fr P M0 M) : A (fun r => fr P M0 r.2) (A_countAskings tat_ about M) := by
  unfold A_countAskings
  refine A_ltM (fr_up w74_0 h_M) (fun M_1 h_M_1 => ?_)
  refine A_ltM (fr_up w74_4 h_M_1) (fun M_2 h_M_2 => ?_)
  refine A_T (fun t_4 ht_4 => ?_)
  refine A_chk (fun hchk => ?_)
  refine A_ltM (fr_cpy w75 h_M_2) (fun M_11 h_M_11 => ?_)
  refine A_bT (fun x => ?_)
  try dsimp only
  refine A_ite (fun _ => ?_) (fun _ => ?_)
  ·
    exact A_some h_M_11
  ·
    refine A_bT (fun x => ?_)
    try dsimp only
    refine A_ite (fun _ => ?_) (fun _ => ?_)
    ·
      exact A_some h_M_11
    ·
      refine A_bind (fz_A_twoAreEnough w75 h_M_11) ?_
      rintro ⟨r_14, M_15⟩ h_M_15
      try dsimp only at h_M_15
      try dsimp only
      refine A_ite (fun _ => ?_) (fun _ => ?_)
      ·
        exact A_some h_M_15
      ·
        exact A_some h_M_15
theorem fz_X_askings {P : Nat → Nat → Prop} {M0 M : Mem} {row : Int} {k : Int} (w71_0 : ¬ P 71 0) (w71_1 : ¬ P 71 1) (w71_3 : ¬ P 71 3) (w73 : ∀ k, ¬ P 73 k) (w72 : ∀ k, ¬ P 72 k) (w71_5 : ¬ P 71 5) (w74_0 : ¬ P 74 0) (w74_4 : ¬ P 74 4) (w75 : ∀ k, ¬ P 75 k) (h_M : fr P M0 M) : A (fun r => fr P M0 r.2) (X_askings row k M) := by
  unfold X_askings
  refine A_T (fun t_2 ht_2 => ?_)
  refine A_bind (fz_W_look w71_0 w71_1 w71_3 w73 w72 w71_5 h_M) ?_
  rintro M_4 h_M_4
  try dsimp only at h_M_4
  try dsimp only
  refine A_T (fun t_6 ht_6 => ?_)
  refine A_bT (fun x => ?_)
  try dsimp only
  refine A_ite (fun _ => ?_) (fun _ => ?_)
  ·
    exact A_some h_M_4
  ·
    refine A_bind (fz_A_countAskings w74_0 w74_4 w75 h_M_4) ?_
    rintro ⟨r_9, M_10⟩ h_M_10
    try dsimp only at h_M_10
    try dsimp only
    exact A_some h_M_10
theorem fz_P_seekMost_b39 {P : Nat → Nat → Prop} {M0 : Mem} {rec_ : Int → Int → Int → Int → Mem → Option (Mem)} {used : Int} {sum : Int} {taken : Int}  (hrec : ∀ (y0 y1 y2 y3 : Int) (M : Mem), fr P M0 M → A (fr P M0) (rec_ y0 y1 y2 y3 M)) : ∀ x, (fun r => fr P M0 r.2) x → A (sK (fun r => fr P M0 r.2) (fr P M0)) (P_seekMost_b39 rec_ used sum taken x) := by
  rintro ⟨l5_17, M_18⟩ h_M_18
  try dsimp only at h_M_18
  unfold P_seekMost_b39
  try dsimp only
  refine A_T (fun t_27 ht_27 => ?_)
  refine A_ite (fun _ => ?_) (fun _ => ?_)
  ·
    refine A_bT (fun x => ?_)
    try dsimp only
    refine A_chk (fun hchk => ?_)
    refine A_bind (J := (fr P M0)) ?_ ?_
    ·
      refine A_ite (fun _ => ?_) (fun _ => ?_)
      ·
        refine A_bind (hrec _ _ _ _ _ h_M_18) ?_
        rintro M_36 h_M_36
        try dsimp only at h_M_36
        try dsimp only
        exact A_some h_M_36
      ·
        exact A_some h_M_18
    rintro M_32 h_M_32
    try dsimp only at h_M_32
    try dsimp only
    refine A_lt (fun l5_43 => ?_)
    exact A_some h_M_32
  ·
    exact A_some h_M_18
theorem fz_P_seekMost_s {P : Nat → Nat → Prop} {M0 M : Mem} {rec_ : Int → Int → Int → Int → Mem → Option (Mem)} {tie : Int} {used : Int} {sum : Int} {taken : Int} (w76_2 : ¬ P 76 2) (w76_3 : ¬ P 76 3) (hrec : ∀ (y0 y1 y2 y3 : Int) (M : Mem), fr P M0 M → A (fr P M0) (rec_ y0 y1 y2 y3 M)) (h_M : fr P M0 M) : A (fr P M0) (P_seekMost_s rec_ tie used sum taken M) := by
  unfold P_seekMost_s
  refine A_bind (J := (fr P M0)) ?_ ?_
  ·
    refine A_jn (J := fun _ => True) (fun _ _ => ?_) (fun j_5 hj_5 => ?_)
    ·
      refine A_ltM (fr_up w76_2 h_M) (fun M_15 h_M_15 => ?_)
      refine A_ltM (fr_up w76_3 h_M_15) (fun M_16 h_M_16 => ?_)
      exact A_some h_M_16
    refine A_ite (fun _ => ?_) (fun _ => ?_)
    ·
      refine A_ite (fun _ => ?_) (fun _ => ?_)
      ·
        exact hj_5 _ trivial
      ·
        exact A_some h_M
    ·
      exact hj_5 _ trivial
  rintro M_1 h_M_1
  try dsimp only at h_M_1
  try dsimp only
  refine A_bind (J := (fr P M0)) (A_it (I := (fun r => fr P M0 r.2)) (fun x hx => fz_P_seekMost_b39 hrec x hx) h_M_1) ?_
  rintro M_25 h_M_25
  try dsimp only at h_M_25
  try dsimp only
  exact A_some h_M_25
theorem fz_P_seekMost {P : Nat → Nat → Prop} {M0 : Mem} (w76_2 : ¬ P 76 2) (w76_3 : ¬ P 76 3) : ∀ (d : Nat) (x0 x1 x2 x3 : Int) {M : Mem}, fr P M0 M → A (fr P M0) (P_seekMost d x0 x1 x2 x3 M)
  | 0, _, _, _, _, _, _ => A_none
  | d + 1, _, _, _, _, _, h => fz_P_seekMost_s w76_2 w76_3 (fun _ _ _ _ _ h => fz_P_seekMost w76_2 w76_3 d _ _ _ _ h) h
theorem fz_P_settleGains_b7 {P : Nat → Nat → Prop} {M0 : Mem} {world : Int} (w77 : ∀ k, ¬ P 77 k) : ∀ x, (fun r => fr P M0 r.2) x → A (sK (fun r => fr P M0 r.2) (fr P M0)) (P_settleGains_b7 world x) := by
  rintro ⟨l3_2, M_3⟩ h_M_3
  try dsimp only at h_M_3
  unfold P_settleGains_b7
  try dsimp only
  refine A_T (fun t_12 ht_12 => ?_)
  refine A_ite (fun _ => ?_) (fun _ => ?_)
  ·
    refine A_bT (fun x => ?_)
    try dsimp only
    refine A_chk (fun hchk => ?_)
    refine A_ltM (fr_up (w77 _) h_M_3) (fun M_17 h_M_17 => ?_)
    refine A_lt (fun l3_18 => ?_)
    exact A_some h_M_17
  ·
    exact A_some h_M_3
theorem fz_P_settleGains {P : Nat → Nat → Prop} {M0 M : Mem} {tat_ : Nat} {world : Int} (w76_0 : ¬ P 76 0) (w77 : ∀ k, ¬ P 77 k) (w76_2 : ¬ P 76 2) (w76_3 : ¬ P 76 3) (h_M : fr P M0 M) : A (fr P M0) (P_settleGains tat_ world M) := by
  unfold P_settleGains
  refine A_ltM (fr_up w76_0 h_M) (fun M_1 h_M_1 => ?_)
  refine A_bind (J := (fr P M0)) (A_it (I := (fun r => fr P M0 r.2)) (fun x hx => fz_P_settleGains_b7 w77 x hx) h_M_1) ?_
  rintro M_10 h_M_10
  try dsimp only at h_M_10
  try dsimp only
  refine A_ltM (fr_up w76_2 h_M_10) (fun M_20 h_M_20 => ?_)
  refine A_ltM (fr_up w76_3 h_M_20) (fun M_21 h_M_21 => ?_)
  refine A_bind (fz_P_seekMost w76_2 w76_3 14 _ _ _ _ h_M_21) ?_
  rintro M_22 h_M_22
  try dsimp only at h_M_22
  try dsimp only
  exact A_some h_M_22
theorem fz_X_rest {P : Nat → Nat → Prop} {M0 M : Mem} {world : Int} {what : Int} (w76_0 : ¬ P 76 0) (w77 : ∀ k, ¬ P 77 k) (w76_2 : ¬ P 76 2) (w76_3 : ¬ P 76 3) (h_M : fr P M0 M) : A (fun r => fr P M0 r.2) (X_rest world what M) := by
  unfold X_rest
  refine A_T (fun t_2 ht_2 => ?_)
  refine A_bT (fun x => ?_)
  try dsimp only
  refine A_ite (fun _ => ?_) (fun _ => ?_)
  ·
    exact A_some h_M
  ·
    refine A_bind (fz_P_settleGains w76_0 w77 w76_2 w76_3 h_M) ?_
    rintro M_5 h_M_5
    try dsimp only at h_M_5
    try dsimp only
    refine A_ite (fun _ => ?_) (fun _ => ?_)
    ·
      exact A_some h_M_5
    ·
      exact A_some h_M_5
theorem fz_X_truth {P : Nat → Nat → Prop} {M0 M : Mem} {row : Int} {c : Int} {d : Int} {part : Int} {k : Int} (w71_0 : ¬ P 71 0) (w71_1 : ¬ P 71 1) (w71_3 : ¬ P 71 3) (w73 : ∀ k, ¬ P 73 k) (w72 : ∀ k, ¬ P 72 k) (w71_5 : ¬ P 71 5) (h_M : fr P M0 M) : A (fun r => fr P M0 r.2) (X_truth row c d part k M) := by
  unfold X_truth
  refine A_bT (fun x => ?_)
  try dsimp only
  refine A_bT (fun x => ?_)
  try dsimp only
  refine A_ite (fun _ => ?_) (fun _ => ?_)
  ·
    exact A_some h_M
  ·
    refine A_T (fun t_25 ht_25 => ?_)
    refine A_bind (fz_W_look w71_0 w71_1 w71_3 w73 w72 w71_5 h_M) ?_
    rintro M_27 h_M_27
    try dsimp only at h_M_27
    try dsimp only
    refine A_bT (fun x => ?_)
    try dsimp only
    refine A_lt (fun l8_29 => ?_)
    refine A_lt (fun l9_30 => ?_)
    refine A_ite (fun _ => ?_) (fun _ => ?_)
    ·
      exact A_some h_M_27
    ·
      refine A_bT (fun x => ?_)
      try dsimp only
      refine A_bT (fun x => ?_)
      try dsimp only
      refine A_chk (fun hchk => ?_)
      exact A_some h_M_27
theorem fz_C_notePairs_b28 {P : Nat → Nat → Prop} {M0 : Mem} {saying : Int} {l2_4 : Int} {l3_5 : Int} (w79 : ∀ k, ¬ P 79 k) : ∀ x, (fun r => fr P M0 r.2) x → A (sK (fun r => fr P M0 r.2) (fr P M0)) (C_notePairs_b28 saying l2_4 l3_5 x) := by
  rintro ⟨l4_18, M_19⟩ h_M_19
  try dsimp only at h_M_19
  unfold C_notePairs_b28
  try dsimp only
  refine A_T (fun t_28 ht_28 => ?_)
  refine A_ite (fun _ => ?_) (fun _ => ?_)
  ·
    refine A_bT (fun x => ?_)
    try dsimp only
    refine A_bind (J := (fr P M0)) ?_ ?_
    ·
      refine A_bT (fun x => ?_)
      try dsimp only
      refine A_ite (fun _ => ?_) (fun _ => ?_)
      ·
        refine A_chk (fun hchk => ?_)
        refine A_ltM (fr_up (w79 _) h_M_19) (fun M_43 h_M_43 => ?_)
        exact A_some h_M_43
      ·
        exact A_some h_M_19
    rintro M_31 h_M_31
    try dsimp only at h_M_31
    try dsimp only
    refine A_lt (fun l4_44 => ?_)
    exact A_some h_M_31
  ·
    exact A_some h_M_19
theorem fz_C_notePairs_b12 {P : Nat → Nat → Prop} {M0 : Mem} {saying : Int} {l2_4 : Int} (w79 : ∀ k, ¬ P 79 k) : ∀ x, (fun r => fr P M0 r.2) x → A (sK (fun r => fr P M0 r.2) (fr P M0)) (C_notePairs_b12 saying l2_4 x) := by
  rintro ⟨l3_5, M_6⟩ h_M_6
  try dsimp only at h_M_6
  unfold C_notePairs_b12
  try dsimp only
  refine A_T (fun t_15 ht_15 => ?_)
  refine A_ite (fun _ => ?_) (fun _ => ?_)
  ·
    refine A_lt (fun l4_17 => ?_)
    refine A_bind (J := (fr P M0)) (A_it (I := (fun r => fr P M0 r.2)) (fun x hx => fz_C_notePairs_b28 w79 x hx) h_M_6) ?_
    rintro M_26 h_M_26
    try dsimp only at h_M_26
    try dsimp only
    refine A_lt (fun l3_46 => ?_)
    exact A_some h_M_26
  ·
    exact A_some h_M_6
theorem fz_C_notePairs {P : Nat → Nat → Prop} {M0 M : Mem} {saying : Int} (w79 : ∀ k, ¬ P 79 k) (h_M : fr P M0 M) : A (fr P M0) (C_notePairs saying M) := by
  unfold C_notePairs
  refine A_chk (fun hchk => ?_)
  refine A_chk (fun hchk => ?_)
  refine A_lt (fun l2_4 => ?_)
  refine A_bind (J := (fr P M0)) (A_it (I := (fun r => fr P M0 r.2)) (fun x hx => fz_C_notePairs_b12 w79 x hx) h_M) ?_
  rintro M_13 h_M_13
  try dsimp only at h_M_13
  try dsimp only
  exact A_some h_M_13
theorem fz_C_watch_b23 {P : Nat → Nat → Prop} {M0 : Mem}  (w79 : ∀ k, ¬ P 79 k) : ∀ x, (fun r => fr P M0 r.2) x → A (sK (fun r => fr P M0 r.2) (fr P M0)) (C_watch_b23 x) := by
  rintro ⟨l4_5, M_6⟩ h_M_6
  try dsimp only at h_M_6
  unfold C_watch_b23
  try dsimp only
  refine A_ite (fun _ => ?_) (fun _ => ?_)
  ·
    refine A_chk (fun hchk => ?_)
    refine A_ltM (fr_up (w79 _) h_M_6) (fun M_16 h_M_16 => ?_)
    refine A_lt (fun l4_17 => ?_)
    exact A_some h_M_16
  ·
    exact A_some h_M_6
theorem fz_C_watch_b47 {P : Nat → Nat → Prop} {M0 : Mem}  (w78_4 : ¬ P 78 4) (w79 : ∀ k, ¬ P 79 k) : ∀ x, (fun r => fr P M0 r.2) x → A (sK (fun r => fr P M0 r.2) (fr P M0)) (C_watch_b47 x) := by
  rintro ⟨l4_19, M_20⟩ h_M_20
  try dsimp only at h_M_20
  unfold C_watch_b47
  try dsimp only
  refine A_chk (fun hchk => ?_)
  refine A_ite (fun _ => ?_) (fun _ => ?_)
  ·
    refine A_chk (fun hchk => ?_)
    refine A_lt (fun l5_31 => ?_)
    refine A_chk (fun hchk => ?_)
    refine A_chk (fun hchk => ?_)
    refine A_bind (J := (fr P M0)) ?_ ?_
    ·
      refine A_bT (fun x => ?_)
      try dsimp only
      refine A_ite (fun _ => ?_) (fun _ => ?_)
      ·
        refine A_ltM (fr_up w78_4 h_M_20) (fun M_45 h_M_45 => ?_)
        refine A_bind (fz_C_notePairs w79 h_M_45) ?_
        rintro M_46 h_M_46
        try dsimp only at h_M_46
        try dsimp only
        exact A_some h_M_46
      ·
        exact A_some h_M_20
    rintro M_35 h_M_35
    try dsimp only at h_M_35
    try dsimp only
    refine A_lt (fun l4_47 => ?_)
    exact A_some h_M_35
  ·
    exact A_some h_M_20
theorem fz_C_watch {P : Nat → Nat → Prop} {M0 M : Mem} {tat_ : Nat} (w78_0 : ¬ P 78 0) (w78_1 : ¬ P 78 1) (w78_2 : ¬ P 78 2) (w78_4 : ¬ P 78 4) (w79 : ∀ k, ¬ P 79 k) (h_M : fr P M0 M) : A (fr P M0) (C_watch tat_ M) := by
  unfold C_watch
  refine A_ltM (fr_up w78_0 h_M) (fun M_1 h_M_1 => ?_)
  refine A_ltM (fr_up w78_1 h_M_1) (fun M_2 h_M_2 => ?_)
  refine A_ltM (fr_up w78_2 h_M_2) (fun M_3 h_M_3 => ?_)
  refine A_ltM (fr_up w78_4 h_M_3) (fun M_4 h_M_4 => ?_)
  refine A_bind (J := (fr P M0)) (A_it (I := (fun r => fr P M0 r.2)) (fun x hx => fz_C_watch_b23 w79 x hx) h_M_4) ?_
  rintro M_13 h_M_13
  try dsimp only at h_M_13
  try dsimp only
  refine A_bind (J := (fr P M0)) (A_it (I := (fun r => fr P M0 r.2)) (fun x hx => fz_C_watch_b47 w78_4 w79 x hx) h_M_13) ?_
  rintro M_27 h_M_27
  try dsimp only at h_M_27
  try dsimp only
  exact A_some h_M_27
theorem fz_X_leagues {P : Nat → Nat → Prop} {M0 M : Mem} {world : Int} {k : Int} (w71_0 : ¬ P 71 0) (w71_1 : ¬ P 71 1) (w71_3 : ¬ P 71 3) (w73 : ∀ k, ¬ P 73 k) (w72 : ∀ k, ¬ P 72 k) (w71_5 : ¬ P 71 5) (w78_0 : ¬ P 78 0) (w78_1 : ¬ P 78 1) (w78_2 : ¬ P 78 2) (w78_4 : ¬ P 78 4) (w79 : ∀ k, ¬ P 79 k) (h_M : fr P M0 M) : A (fun r => fr P M0 r.2) (X_leagues world k M) := by
  unfold X_leagues
  refine A_T (fun t_2 ht_2 => ?_)
  refine A_bT (fun x => ?_)
  try dsimp only
  refine A_ite (fun _ => ?_) (fun _ => ?_)
  ·
    exact A_some h_M
  ·
    refine A_bind (fz_W_look w71_0 w71_1 w71_3 w73 w72 w71_5 h_M) ?_
    rintro M_5 h_M_5
    try dsimp only at h_M_5
    try dsimp only
    refine A_T (fun t_7 ht_7 => ?_)
    refine A_bind (fz_C_watch w78_0 w78_1 w78_2 w78_4 w79 h_M_5) ?_
    rintro M_9 h_M_9
    try dsimp only at h_M_9
    try dsimp only
    refine A_bT (fun x => ?_)
    try dsimp only
    refine A_ite (fun _ => ?_) (fun _ => ?_)
    ·
      exact A_some h_M_9
    ·
      exact A_some h_M_9
theorem fz_X_plain {P : Nat → Nat → Prop} {M0 M : Mem} {k : Int} (w71_0 : ¬ P 71 0) (w71_1 : ¬ P 71 1) (w71_3 : ¬ P 71 3) (w73 : ∀ k, ¬ P 73 k) (w72 : ∀ k, ¬ P 72 k) (w71_5 : ¬ P 71 5) (w78_0 : ¬ P 78 0) (w78_1 : ¬ P 78 1) (w78_2 : ¬ P 78 2) (w78_4 : ¬ P 78 4) (w79 : ∀ k, ¬ P 79 k) (h_M : fr P M0 M) : A (fun r => fr P M0 r.2) (X_plain k M) := by
  unfold X_plain
  refine A_T (fun t_2 ht_2 => ?_)
  refine A_bind (fz_W_look w71_0 w71_1 w71_3 w73 w72 w71_5 h_M) ?_
  rintro M_4 h_M_4
  try dsimp only at h_M_4
  try dsimp only
  refine A_T (fun t_6 ht_6 => ?_)
  refine A_bind (fz_C_watch w78_0 w78_1 w78_2 w78_4 w79 h_M_4) ?_
  rintro M_8 h_M_8
  try dsimp only at h_M_8
  try dsimp only
  refine A_bT (fun x => ?_)
  try dsimp only
  exact A_some h_M_8
theorem fz_P_seekFewest_b28 {P : Nat → Nat → Prop} {M0 : Mem} {rec_ : Int → Int → Int → Int → Mem → Option (Mem)} {used : Int} {sum : Int} {count : Int}  (hrec : ∀ (y0 y1 y2 y3 : Int) (M : Mem), fr P M0 M → A (fr P M0) (rec_ y0 y1 y2 y3 M)) : ∀ x, (fun r => fr P M0 r.2) x → A (sK (fun r => fr P M0 r.2) (fr P M0)) (P_seekFewest_b28 rec_ used sum count x) := by
  rintro ⟨l5_2, M_3⟩ h_M_3
  try dsimp only at h_M_3
  unfold P_seekFewest_b28
  try dsimp only
  refine A_T (fun t_12 ht_12 => ?_)
  refine A_ite (fun _ => ?_) (fun _ => ?_)
  ·
    refine A_bT (fun x => ?_)
    try dsimp only
    refine A_bind (J := (fr P M0)) ?_ ?_
    ·
      refine A_ite (fun _ => ?_) (fun _ => ?_)
      ·
        refine A_chk (fun hchk => ?_)
        refine A_bind (hrec _ _ _ _ _ h_M_3) ?_
        rintro M_21 h_M_21
        try dsimp only at h_M_21
        try dsimp only
        exact A_some h_M_21
      ·
        exact A_some h_M_3
    rintro M_15 h_M_15
    try dsimp only at h_M_15
    try dsimp only
    refine A_lt (fun l5_23 => ?_)
    exact A_some h_M_15
  ·
    exact A_some h_M_3
theorem fz_P_seekFewest_s {P : Nat → Nat → Prop} {M0 M : Mem} {rec_ : Int → Int → Int → Int → Mem → Option (Mem)} {tie : Int} {used : Int} {sum : Int} {count : Int} (w76_5 : ¬ P 76 5) (hrec : ∀ (y0 y1 y2 y3 : Int) (M : Mem), fr P M0 M → A (fr P M0) (rec_ y0 y1 y2 y3 M)) (h_M : fr P M0 M) : A (fr P M0) (P_seekFewest_s rec_ tie used sum count M) := by
  unfold P_seekFewest_s
  refine A_ite (fun _ => ?_) (fun _ => ?_)
  ·
    exact A_some h_M
  ·
    refine A_ite (fun _ => ?_) (fun _ => ?_)
    ·
      refine A_ltM (fr_up w76_5 h_M) (fun M_1 h_M_1 => ?_)
      exact A_some h_M_1
    ·
      refine A_bind (J := (fr P M0)) (A_it (I := (fun r => fr P M0 r.2)) (fun x hx => fz_P_seekFewest_b28 hrec x hx) h_M) ?_
      rintro M_10 h_M_10
      try dsimp only at h_M_10
      try dsimp only
      exact A_some h_M_10
theorem fz_P_seekFewest {P : Nat → Nat → Prop} {M0 : Mem} (w76_5 : ¬ P 76 5) : ∀ (d : Nat) (x0 x1 x2 x3 : Int) {M : Mem}, fr P M0 M → A (fr P M0) (P_seekFewest d x0 x1 x2 x3 M)
  | 0, _, _, _, _, _, _ => A_none
  | d + 1, _, _, _, _, _, h => fz_P_seekFewest_s w76_5 (fun _ _ _ _ _ h => fz_P_seekFewest w76_5 d _ _ _ _ h) h
theorem fz_P_fewestTurning_b44 {P : Nat → Nat → Prop} {M0 : Mem} {row : Int} {world : Int} {v_2 : Int} (w77 : ∀ k, ¬ P 77 k) : ∀ x, (fun r => fr P M0 r.2) x → A (sK (fun r => fr P M0 r.2) (fr P M0)) (P_fewestTurning_b44 row world v_2 x) := by
  rintro ⟨l6_14, M_15⟩ h_M_15
  try dsimp only at h_M_15
  unfold P_fewestTurning_b44
  try dsimp only
  refine A_T (fun t_24 ht_24 => ?_)
  refine A_ite (fun _ => ?_) (fun _ => ?_)
  ·
    refine A_chk (fun hchk => ?_)
    refine A_bT (fun x => ?_)
    try dsimp only
    refine A_bT (fun x => ?_)
    try dsimp only
    refine A_lt (fun l7_30 => ?_)
    refine A_bT (fun x => ?_)
    try dsimp only
    refine A_ltM (fr_up (w77 _) h_M_15) (fun M_36 h_M_36 => ?_)
    refine A_lt (fun l6_37 => ?_)
    exact A_some h_M_36
  ·
    exact A_some h_M_15
theorem fz_P_fewestTurning {P : Nat → Nat → Prop} {M0 M : Mem} {tat_ : Nat} {row : Int} {world : Int} {lead : Int} (w76_0 : ¬ P 76 0) (w76_4 : ¬ P 76 4) (w76_5 : ¬ P 76 5) (w77 : ∀ k, ¬ P 77 k) (h_M : fr P M0 M) : A (fun r => fr P M0 r.2) (P_fewestTurning tat_ row world lead M) := by
  unfold P_fewestTurning
  refine A_ltM (fr_up w76_0 h_M) (fun M_1 h_M_1 => ?_)
  refine A_bT (fun x => ?_)
  try dsimp only
  refine A_bT (fun x => ?_)
  try dsimp only
  refine A_ltM (fr_up w76_4 h_M_1) (fun M_12 h_M_12 => ?_)
  refine A_ltM (fr_up w76_5 h_M_12) (fun M_13 h_M_13 => ?_)
  refine A_bind (J := (fr P M0)) (A_it (I := (fun r => fr P M0 r.2)) (fun x hx => fz_P_fewestTurning_b44 w77 x hx) h_M_13) ?_
  rintro M_22 h_M_22
  try dsimp only at h_M_22
  try dsimp only
  refine A_bind (fz_P_seekFewest w76_5 14 _ _ _ _ h_M_22) ?_
  rintro M_39 h_M_39
  try dsimp only at h_M_39
  try dsimp only
  refine A_ite (fun _ => ?_) (fun _ => ?_)
  ·
    exact A_some h_M_39
  ·
    exact A_some h_M_39
theorem fz_X_vote {P : Nat → Nat → Prop} {M0 M : Mem} {row : Int} {world : Int} {what : Int} (w76_0 : ¬ P 76 0) (w76_4 : ¬ P 76 4) (w76_5 : ¬ P 76 5) (w77 : ∀ k, ¬ P 77 k) (h_M : fr P M0 M) : A (fun r => fr P M0 r.2) (X_vote row world what M) := by
  unfold X_vote
  refine A_T (fun t_2 ht_2 => ?_)
  refine A_bT (fun x => ?_)
  try dsimp only
  refine A_ite (fun _ => ?_) (fun _ => ?_)
  ·
    exact A_some h_M
  ·
    refine A_bT (fun x => ?_)
    try dsimp only
    refine A_bT (fun x => ?_)
    try dsimp only
    refine A_ite (fun _ => ?_) (fun _ => ?_)
    ·
      exact A_some h_M
    ·
      refine A_ite (fun _ => ?_) (fun _ => ?_)
      ·
        exact A_some h_M
      ·
        refine A_ite (fun _ => ?_) (fun _ => ?_)
        ·
          refine A_ite (fun _ => ?_) (fun _ => ?_)
          ·
            exact A_some h_M
          ·
            exact A_some h_M
        ·
          refine A_bind (fz_P_fewestTurning w76_0 w76_4 w76_5 w77 h_M) ?_
          rintro ⟨r_11, M_12⟩ h_M_12
          try dsimp only at h_M_12
          try dsimp only
          exact A_some h_M_12
theorem fz_Y_copy {P : Nat → Nat → Prop} {M0 M : Mem} {s : Nat} {sfrom_ : Nat} (ws0_0 : ¬ P s 0) (ws1 : ∀ k, ¬ P (s + 1) k) (ws2 : ∀ k, ¬ P (s + 2) k) (ws3 : ∀ k, ¬ P (s + 3) k) (ws4 : ∀ k, ¬ P (s + 4) k) (ws5 : ∀ k, ¬ P (s + 5) k) (ws6 : ∀ k, ¬ P (s + 6) k) (h_M : fr P M0 M) : A (fr P M0) (Y_copy s sfrom_ M) := by
  unfold Y_copy
  refine A_ltM (fr_up ws0_0 h_M) (fun M_1 h_M_1 => ?_)
  refine A_chk (fun hchk => ?_)
  refine A_ltM (fr_cpy ws1 h_M_1) (fun M_7 h_M_7 => ?_)
  refine A_chk (fun hchk => ?_)
  refine A_ltM (fr_cpy ws2 h_M_7) (fun M_13 h_M_13 => ?_)
  refine A_chk (fun hchk => ?_)
  refine A_ltM (fr_cpy ws3 h_M_13) (fun M_20 h_M_20 => ?_)
  refine A_chk (fun hchk => ?_)
  refine A_ltM (fr_cpy ws4 h_M_20) (fun M_26 h_M_26 => ?_)
  refine A_chk (fun hchk => ?_)
  refine A_ltM (fr_cpy ws5 h_M_26) (fun M_32 h_M_32 => ?_)
  refine A_chk (fun hchk => ?_)
  refine A_ltM (fr_cpy ws6 h_M_32) (fun M_38 h_M_38 => ?_)
  exact A_some h_M_38
theorem fz_X_image {P : Nat → Nat → Prop} {M0 M : Mem} {box : Int} (wS0_0 : ∀ s, isY s → ¬ P s 0) (wS1 : ∀ s, isY s → ∀ k, ¬ P (s + 1) k) (wS2 : ∀ s, isY s → ∀ k, ¬ P (s + 2) k) (wS3 : ∀ s, isY s → ∀ k, ¬ P (s + 3) k) (wS4 : ∀ s, isY s → ∀ k, ¬ P (s + 4) k) (wS5 : ∀ s, isY s → ∀ k, ¬ P (s + 5) k) (wS6 : ∀ s, isY s → ∀ k, ¬ P (s + 6) k) (wS0_1 : ∀ s, isY s → ¬ P s 1) (h_M : fr P M0 M) : A (fun r => fr P M0 r.2) (X_image box M) := by
  unfold X_image
  refine A_ite (fun _ => ?_) (fun _ => ?_)
  ·
    exact A_some h_M
  ·
    refine A_chk (fun hchk => ?_)
    refine A_ltE (fun s_3 es_3 => ?_)
    have hs_3 : isY s_3 := by unfold isY; omega
    refine A_bind (fz_Y_copy (wS0_0 s_3 hs_3) (wS1 s_3 hs_3) (wS2 s_3 hs_3) (wS3 s_3 hs_3) (wS4 s_3 hs_3) (wS5 s_3 hs_3) (wS6 s_3 hs_3) h_M) ?_
    rintro M_4 h_M_4
    try dsimp only at h_M_4
    try dsimp only
    refine A_ltE (fun s_5 es_5 => ?_)
    have hs_5 : isY s_5 := by unfold isY; omega
    refine A_ltM (fr_up (wS0_1 s_5 hs_5) h_M_4) (fun M_6 h_M_6 => ?_)
    exact A_some h_M_6
theorem fz_X_back {P : Nat → Nat → Prop} {M0 M : Mem} {box : Int} (w42_0 : ¬ P 42 0) (w43 : ∀ k, ¬ P 43 k) (w44 : ∀ k, ¬ P 44 k) (w45 : ∀ k, ¬ P 45 k) (w46 : ∀ k, ¬ P 46 k) (w47 : ∀ k, ¬ P 47 k) (w48 : ∀ k, ¬ P 48 k) (h_M : fr P M0 M) : A (fun r => fr P M0 r.2) (X_back box M) := by
  unfold X_back
  refine A_bT (fun x => ?_)
  try dsimp only
  refine A_ite (fun _ => ?_) (fun _ => ?_)
  ·
    exact A_some h_M
  ·
    refine A_chk (fun hchk => ?_)
    refine A_ltE (fun s_11 es_11 => ?_)
    have hs_11 : isY s_11 := by unfold isY; omega
    refine A_bind (fz_Y_copy w42_0 w43 w44 w45 w46 w47 w48 h_M) ?_
    rintro M_12 h_M_12
    try dsimp only at h_M_12
    try dsimp only
    exact A_some h_M_12
theorem fz_M_clearBank {P : Nat → Nat → Prop} {M0 M : Mem}  (w84 : ∀ k, ¬ P 84 k) (w85 : ∀ k, ¬ P 85 k) (w86 : ∀ k, ¬ P 86 k) (w87 : ∀ k, ¬ P 87 k) (w88 : ∀ k, ¬ P 88 k) (w89 : ∀ k, ¬ P 89 k) (w90 : ∀ k, ¬ P 90 k) (w91 : ∀ k, ¬ P 91 k) (w81_40 : ¬ P 81 40) (h_M : fr P M0 M) : A (fr P M0) (M_clearBank M) := by
  unfold M_clearBank
  refine A_chk (fun hchk => ?_)
  refine A_ltM (fr_up (w84 _) h_M) (fun M_3 h_M_3 => ?_)
  refine A_chk (fun hchk => ?_)
  refine A_ltM (fr_up (w85 _) h_M_3) (fun M_6 h_M_6 => ?_)
  refine A_chk (fun hchk => ?_)
  refine A_ltM (fr_up (w86 _) h_M_6) (fun M_9 h_M_9 => ?_)
  refine A_chk (fun hchk => ?_)
  refine A_ltM (fr_up (w87 _) h_M_9) (fun M_12 h_M_12 => ?_)
  refine A_chk (fun hchk => ?_)
  refine A_ltM (fr_up (w88 _) h_M_12) (fun M_15 h_M_15 => ?_)
  refine A_chk (fun hchk => ?_)
  refine A_ltM (fr_up (w89 _) h_M_15) (fun M_18 h_M_18 => ?_)
  refine A_chk (fun hchk => ?_)
  refine A_ltM (fr_up (w90 _) h_M_18) (fun M_21 h_M_21 => ?_)
  refine A_chk (fun hchk => ?_)
  refine A_ltM (fr_up (w91 _) h_M_21) (fun M_24 h_M_24 => ?_)
  refine A_ltM (fr_up w81_40 h_M_24) (fun M_25 h_M_25 => ?_)
  exact A_some h_M_25
theorem fz_M_minds_b19 {P : Nat → Nat → Prop} {M0 : Mem} {top : Int} {holds_ : Int} {l4_3 : Int} (w113 : ∀ k, ¬ P 113 k) : ∀ x, (fun r => fr P M0 r.2) x → A (sK (fun r => fr P M0 r.2) (fr P M0)) (M_minds_b19 top holds_ l4_3 x) := by
  rintro ⟨l5_4, M_5⟩ h_M_5
  try dsimp only at h_M_5
  unfold M_minds_b19
  try dsimp only
  refine A_bT (fun x => ?_)
  try dsimp only
  refine A_ite (fun _ => ?_) (fun _ => ?_)
  ·
    refine A_bT (fun x => ?_)
    try dsimp only
    refine A_bT (fun x => ?_)
    try dsimp only
    refine A_chk (fun hchk => ?_)
    refine A_chk (fun hchk => ?_)
    refine A_ltM (fr_up (w113 _) h_M_5) (fun M_59 h_M_59 => ?_)
    refine A_lt (fun l5_60 => ?_)
    exact A_some h_M_59
  ·
    exact A_some h_M_5
theorem fz_M_minds_b154 {P : Nat → Nat → Prop} {M0 : Mem} {top : Int} (w113 : ∀ k, ¬ P 113 k) : ∀ x, (fun r => fr P M0 r.2) x → A (sK (fun r => fr P M0 r.2) (fr P M0)) (M_minds_b154 top x) := by
  rintro ⟨l5_62, M_63⟩ h_M_63
  try dsimp only at h_M_63
  unfold M_minds_b154
  try dsimp only
  refine A_bT (fun x => ?_)
  try dsimp only
  refine A_ite (fun _ => ?_) (fun _ => ?_)
  ·
    refine A_bT (fun x => ?_)
    try dsimp only
    refine A_bT (fun x => ?_)
    try dsimp only
    refine A_chk (fun hchk => ?_)
    refine A_chk (fun hchk => ?_)
    refine A_chk (fun hchk => ?_)
    refine A_ltM (fr_up (w113 _) h_M_63) (fun M_79 h_M_79 => ?_)
    refine A_lt (fun l5_80 => ?_)
    exact A_some h_M_79
  ·
    exact A_some h_M_63
theorem fz_M_minds {P : Nat → Nat → Prop} {M0 M : Mem} {top : Int} {p : Int} {holds_ : Int} (w113 : ∀ k, ¬ P 113 k) (h_M : fr P M0 M) : A (fr P M0) (M_minds top p holds_ M) := by
  unfold M_minds
  refine A_chk (fun hchk => ?_)
  refine A_lt (fun l4_3 => ?_)
  refine A_bind (J := (fr P M0)) (A_it (I := (fun r => fr P M0 r.2)) (fun x hx => fz_M_minds_b19 w113 x hx) h_M) ?_
  rintro M_12 h_M_12
  try dsimp only at h_M_12
  try dsimp only
  refine A_bind (J := (fr P M0)) (A_it (I := (fun r => fr P M0 r.2)) (fun x hx => fz_M_minds_b154 w113 x hx) h_M_12) ?_
  rintro M_70 h_M_70
  try dsimp only at h_M_70
  try dsimp only
  exact A_some h_M_70
theorem fz_M_bothOf_b2 {P : Nat → Nat → Prop} {M0 : Mem} {c : Int} {top : Int} (w113 : ∀ k, ¬ P 113 k) : ∀ x, (fun r => fr P M0 r.2) x → A (sK (fun r => fr P M0 r.2) (fr P M0)) (M_bothOf_b2 c top x) := by
  rintro ⟨l3_1, M_2⟩ h_M_2
  try dsimp only at h_M_2
  unfold M_bothOf_b2
  try dsimp only
  refine A_bT (fun x => ?_)
  try dsimp only
  refine A_ite (fun _ => ?_) (fun _ => ?_)
  ·
    refine A_bT (fun x => ?_)
    try dsimp only
    refine A_chk (fun hchk => ?_)
    refine A_lt (fun l4_14 => ?_)
    refine A_bT (fun x => ?_)
    try dsimp only
    refine A_chk (fun hchk => ?_)
    refine A_lt (fun l5_18 => ?_)
    refine A_bT (fun x => ?_)
    try dsimp only
    refine A_bT (fun x => ?_)
    try dsimp only
    refine A_chk (fun hchk => ?_)
    refine A_chk (fun hchk => ?_)
    refine A_ltM (fr_up (w113 _) h_M_2) (fun M_47 h_M_47 => ?_)
    refine A_lt (fun l3_48 => ?_)
    exact A_some h_M_47
  ·
    exact A_some h_M_2
theorem fz_M_bothOf {P : Nat → Nat → Prop} {M0 M : Mem} {c : Int} {top : Int} (w113 : ∀ k, ¬ P 113 k) (h_M : fr P M0 M) : A (fr P M0) (M_bothOf c top M) := by
  unfold M_bothOf
  refine A_bind (J := (fr P M0)) (A_it (I := (fun r => fr P M0 r.2)) (fun x hx => fz_M_bothOf_b2 w113 x hx) h_M) ?_
  rintro M_9 h_M_9
  try dsimp only at h_M_9
  try dsimp only
  exact A_some h_M_9
theorem fz_M_layColumn_b50 {P : Nat → Nat → Prop} {M0 : Mem} {l2_4 : Int} {l4_16 : Int} {l5_17 : Int} (w113 : ∀ k, ¬ P 113 k) : ∀ x, (fun r => fr P M0 r.2) x → A (sK (fun r => fr P M0 r.2) (fr P M0)) (M_layColumn_b50 l2_4 l4_16 l5_17 x) := by
  rintro ⟨l6_23, M_24⟩ h_M_24
  try dsimp only at h_M_24
  unfold M_layColumn_b50
  try dsimp only
  refine A_bT (fun x => ?_)
  try dsimp only
  refine A_ite (fun _ => ?_) (fun _ => ?_)
  ·
    refine A_bT (fun x => ?_)
    try dsimp only
    refine A_bT (fun x => ?_)
    try dsimp only
    refine A_chk (fun hchk => ?_)
    refine A_chk (fun hchk => ?_)
    refine A_ltM (fr_up (w113 _) h_M_24) (fun M_46 h_M_46 => ?_)
    refine A_lt (fun l6_47 => ?_)
    exact A_some h_M_46
  ·
    exact A_some h_M_24
theorem fz_M_layColumn_b128 {P : Nat → Nat → Prop} {M0 : Mem} {l2_4 : Int} (w113 : ∀ k, ¬ P 113 k) : ∀ x, (fun r => fr P M0 r.2) x → A (sK (fun r => fr P M0 r.2) (fr P M0)) (M_layColumn_b128 l2_4 x) := by
  rintro ⟨l6_50, M_51⟩ h_M_51
  try dsimp only at h_M_51
  unfold M_layColumn_b128
  try dsimp only
  refine A_bT (fun x => ?_)
  try dsimp only
  refine A_ite (fun _ => ?_) (fun _ => ?_)
  ·
    refine A_bT (fun x => ?_)
    try dsimp only
    refine A_bT (fun x => ?_)
    try dsimp only
    refine A_chk (fun hchk => ?_)
    refine A_bT (fun x => ?_)
    try dsimp only
    refine A_chk (fun hchk => ?_)
    refine A_chk (fun hchk => ?_)
    refine A_ltM (fr_up (w113 _) h_M_51) (fun M_72 h_M_72 => ?_)
    refine A_lt (fun l6_73 => ?_)
    exact A_some h_M_72
  ·
    exact A_some h_M_51
theorem fz_M_layColumn_b9 {P : Nat → Nat → Prop} {M0 : Mem} {u : Int} (w113 : ∀ k, ¬ P 113 k) : ∀ x, (fun r => fr P M0 r.2.2) x → A (sK (fun r => fr P M0 r.2.2) (fr P M0)) (M_layColumn_b9 u x) := by
  rintro ⟨l2_4, l3_5, M_6⟩ h_M_6
  try dsimp only at h_M_6
  unfold M_layColumn_b9
  try dsimp only
  refine A_ite (fun _ => ?_) (fun _ => ?_)
  ·
    refine A_chk (fun hchk => ?_)
    refine A_lt (fun l4_16 => ?_)
    refine A_lt (fun l5_17 => ?_)
    refine A_bind (J := (fun r => fr P M0 r.2)) ?_ ?_
    ·
      refine A_ite (fun _ => ?_) (fun _ => ?_)
      ·
        refine A_bind (J := (fr P M0)) (A_it (I := (fun r => fr P M0 r.2)) (fun x hx => fz_M_layColumn_b50 w113 x hx) h_M_6) ?_
        rintro M_31 h_M_31
        try dsimp only at h_M_31
        try dsimp only
        refine A_lt (fun l2_49 => ?_)
        exact A_some h_M_31
      ·
        refine A_ite (fun _ => ?_) (fun _ => ?_)
        ·
          refine A_bind (J := (fr P M0)) (A_it (I := (fun r => fr P M0 r.2)) (fun x hx => fz_M_layColumn_b128 w113 x hx) h_M_6) ?_
          rintro M_58 h_M_58
          try dsimp only at h_M_58
          try dsimp only
          exact A_some h_M_58
        ·
          refine A_ite (fun _ => ?_) (fun _ => ?_)
          ·
            refine A_bT (fun x => ?_)
            try dsimp only
            refine A_bind (fz_M_minds w113 h_M_6) ?_
            rintro M_80 h_M_80
            try dsimp only at h_M_80
            try dsimp only
            exact A_some h_M_80
          ·
            refine A_bind (fz_M_bothOf w113 h_M_6) ?_
            rintro M_81 h_M_81
            try dsimp only at h_M_81
            try dsimp only
            refine A_lt (fun l2_82 => ?_)
            exact A_some h_M_81
    rintro ⟨l2_18, M_19⟩ h_M_19
    try dsimp only at h_M_19
    try dsimp only
    refine A_lt (fun l3_96 => ?_)
    exact A_some h_M_19
  ·
    exact A_some h_M_6
theorem fz_M_layColumn {P : Nat → Nat → Prop} {M0 M : Mem} {u : Int} (w113 : ∀ k, ¬ P 113 k) (h_M : fr P M0 M) : A (fr P M0) (M_layColumn u M) := by
  unfold M_layColumn
  refine A_chk (fun hchk => ?_)
  refine A_lt (fun l3_3 => ?_)
  refine A_bind (J := (fr P M0)) (A_it (I := (fun r => fr P M0 r.2.2)) (fun x hx => fz_M_layColumn_b9 w113 x hx) h_M) ?_
  rintro M_13 h_M_13
  try dsimp only at h_M_13
  try dsimp only
  exact A_some h_M_13
theorem fz_M_layRows_b46 {P : Nat → Nat → Prop} {M0 : Mem} {l2_1 : Int} (w112 : ∀ k, ¬ P 112 k) : ∀ x, (fun r => fr P M0 r.2) x → A (sK (fun r => fr P M0 r.2) (fr P M0)) (M_layRows_b46 l2_1 x) := by
  rintro ⟨l3_18, M_19⟩ h_M_19
  try dsimp only at h_M_19
  unfold M_layRows_b46
  try dsimp only
  refine A_bT (fun x => ?_)
  try dsimp only
  refine A_ite (fun _ => ?_) (fun _ => ?_)
  ·
    refine A_bT (fun x => ?_)
    try dsimp only
    refine A_chk (fun hchk => ?_)
    refine A_chk (fun hchk => ?_)
    refine A_chk (fun hchk => ?_)
    refine A_ltM (fr_up (w112 _) h_M_19) (fun M_34 h_M_34 => ?_)
    refine A_lt (fun l3_35 => ?_)
    exact A_some h_M_34
  ·
    exact A_some h_M_19
theorem fz_M_layRows_b2 {P : Nat → Nat → Prop} {M0 : Mem} {thinkingOnes : Int} (w113 : ∀ k, ¬ P 113 k) (w112 : ∀ k, ¬ P 112 k) : ∀ x, (fun r => fr P M0 r.2) x → A (sK (fun r => fr P M0 r.2) (fr P M0)) (M_layRows_b2 thinkingOnes x) := by
  rintro ⟨l2_1, M_2⟩ h_M_2
  try dsimp only at h_M_2
  unfold M_layRows_b2
  try dsimp only
  refine A_bT (fun x => ?_)
  try dsimp only
  refine A_ite (fun _ => ?_) (fun _ => ?_)
  ·
    refine A_chk (fun hchk => ?_)
    refine A_bind (J := (fr P M0)) ?_ ?_
    ·
      refine A_ite (fun _ => ?_) (fun _ => ?_)
      ·
        exact A_some h_M_2
      ·
        refine A_bind (fz_M_layColumn w113 h_M_2) ?_
        rintro M_17 h_M_17
        try dsimp only at h_M_17
        try dsimp only
        refine A_bind (J := (fr P M0)) (A_it (I := (fun r => fr P M0 r.2)) (fun x hx => fz_M_layRows_b46 w112 x hx) h_M_17) ?_
        rintro M_26 h_M_26
        try dsimp only at h_M_26
        try dsimp only
        exact A_some h_M_26
    rintro M_13 h_M_13
    try dsimp only at h_M_13
    try dsimp only
    refine A_lt (fun l2_38 => ?_)
    exact A_some h_M_13
  ·
    exact A_some h_M_2
theorem fz_M_layRows {P : Nat → Nat → Prop} {M0 M : Mem} {thinkingOnes : Int} (w113 : ∀ k, ¬ P 113 k) (w112 : ∀ k, ¬ P 112 k) (h_M : fr P M0 M) : A (fr P M0) (M_layRows thinkingOnes M) := by
  unfold M_layRows
  refine A_bind (J := (fr P M0)) (A_it (I := (fun r => fr P M0 r.2)) (fun x hx => fz_M_layRows_b2 w113 w112 x hx) h_M) ?_
  rintro M_9 h_M_9
  try dsimp only at h_M_9
  try dsimp only
  exact A_some h_M_9
theorem fz_M_layWorlds_b2 {P : Nat → Nat → Prop} {M0 : Mem}  (w111 : ∀ k, ¬ P 111 k) : ∀ x, (fun r => fr P M0 r.2) x → A (sK (fun r => fr P M0 r.2) (fr P M0)) (M_layWorlds_b2 x) := by
  rintro ⟨l1_1, M_2⟩ h_M_2
  try dsimp only at h_M_2
  unfold M_layWorlds_b2
  try dsimp only
  refine A_ite (fun _ => ?_) (fun _ => ?_)
  ·
    refine A_bT (fun x => ?_)
    try dsimp only
    refine A_bT (fun x => ?_)
    try dsimp only
    refine A_chk (fun hchk => ?_)
    refine A_chk (fun hchk => ?_)
    refine A_ltM (fr_up (w111 _) h_M_2) (fun M_19 h_M_19 => ?_)
    refine A_lt (fun l1_20 => ?_)
    exact A_some h_M_19
  ·
    exact A_some h_M_2
theorem fz_M_layWorlds_b72 {P : Nat → Nat → Prop} {M0 : Mem}  (w111 : ∀ k, ¬ P 111 k) : ∀ x, (fun r => fr P M0 r.2) x → A (sK (fun r => fr P M0 r.2) (fr P M0)) (M_layWorlds_b72 x) := by
  rintro ⟨l2_35, M_36⟩ h_M_36
  try dsimp only at h_M_36
  unfold M_layWorlds_b72
  try dsimp only
  refine A_bT (fun x => ?_)
  try dsimp only
  refine A_ite (fun _ => ?_) (fun _ => ?_)
  ·
    refine A_chk (fun hchk => ?_)
    refine A_bT (fun x => ?_)
    try dsimp only
    refine A_chk (fun hchk => ?_)
    refine A_ltM (fr_up (w111 _) h_M_36) (fun M_59 h_M_59 => ?_)
    refine A_lt (fun l2_60 => ?_)
    exact A_some h_M_59
  ·
    exact A_some h_M_36
theorem fz_M_layWorlds_b41 {P : Nat → Nat → Prop} {M0 : Mem}  (w113 : ∀ k, ¬ P 113 k) (w111 : ∀ k, ¬ P 111 k) : ∀ x, (fun r => fr P M0 r.2) x → A (sK (fun r => fr P M0 r.2) (fr P M0)) (M_layWorlds_b41 x) := by
  rintro ⟨l1_23, M_24⟩ h_M_24
  try dsimp only at h_M_24
  unfold M_layWorlds_b41
  try dsimp only
  refine A_chk (fun hchk => ?_)
  refine A_ite (fun _ => ?_) (fun _ => ?_)
  ·
    refine A_bind (fz_M_layColumn w113 h_M_24) ?_
    rintro M_34 h_M_34
    try dsimp only at h_M_34
    try dsimp only
    refine A_bind (J := (fr P M0)) (A_it (I := (fun r => fr P M0 r.2)) (fun x hx => fz_M_layWorlds_b72 w111 x hx) h_M_34) ?_
    rintro M_43 h_M_43
    try dsimp only at h_M_43
    try dsimp only
    refine A_lt (fun l1_62 => ?_)
    exact A_some h_M_43
  ·
    exact A_some h_M_24
theorem fz_M_layWorlds_b148 {P : Nat → Nat → Prop} {M0 : Mem} {l1_65 : Int} {l2_75 : Int} (w114 : ∀ k, ¬ P 114 k) : ∀ x, (fun r => fr P M0 r.2) x → A (sK (fun r => fr P M0 r.2) (fr P M0)) (M_layWorlds_b148 l1_65 l2_75 x) := by
  rintro ⟨l3_85, M_86⟩ h_M_86
  try dsimp only at h_M_86
  unfold M_layWorlds_b148
  try dsimp only
  refine A_bT (fun x => ?_)
  try dsimp only
  refine A_ite (fun _ => ?_) (fun _ => ?_)
  ·
    refine A_chk (fun hchk => ?_)
    refine A_bind (J := (fr P M0)) ?_ ?_
    ·
      refine A_ite (fun _ => ?_) (fun _ => ?_)
      ·
        refine A_bT (fun x => ?_)
        try dsimp only
        refine A_chk (fun hchk => ?_)
        refine A_ltM (fr_up (w114 _) h_M_86) (fun M_104 h_M_104 => ?_)
        exact A_some h_M_104
      ·
        exact A_some h_M_86
    rintro M_97 h_M_97
    try dsimp only at h_M_97
    try dsimp only
    refine A_lt (fun l3_106 => ?_)
    exact A_some h_M_97
  ·
    exact A_some h_M_86
theorem fz_M_layWorlds_b138 {P : Nat → Nat → Prop} {M0 : Mem} {l1_65 : Int} (w114 : ∀ k, ¬ P 114 k) : ∀ x, (fun r => fr P M0 r.2) x → A (sK (fun r => fr P M0 r.2) (fr P M0)) (M_layWorlds_b138 l1_65 x) := by
  rintro ⟨l2_75, M_76⟩ h_M_76
  try dsimp only at h_M_76
  unfold M_layWorlds_b138
  try dsimp only
  refine A_bT (fun x => ?_)
  try dsimp only
  refine A_ite (fun _ => ?_) (fun _ => ?_)
  ·
    refine A_bind (J := (fr P M0)) (A_it (I := (fun r => fr P M0 r.2)) (fun x hx => fz_M_layWorlds_b148 w114 x hx) h_M_76) ?_
    rintro M_93 h_M_93
    try dsimp only at h_M_93
    try dsimp only
    refine A_lt (fun l2_108 => ?_)
    exact A_some h_M_93
  ·
    exact A_some h_M_76
theorem fz_M_layWorlds_b128 {P : Nat → Nat → Prop} {M0 : Mem}  (w114 : ∀ k, ¬ P 114 k) : ∀ x, (fun r => fr P M0 r.2) x → A (sK (fun r => fr P M0 r.2) (fr P M0)) (M_layWorlds_b128 x) := by
  rintro ⟨l1_65, M_66⟩ h_M_66
  try dsimp only at h_M_66
  unfold M_layWorlds_b128
  try dsimp only
  refine A_bT (fun x => ?_)
  try dsimp only
  refine A_ite (fun _ => ?_) (fun _ => ?_)
  ·
    refine A_bind (J := (fr P M0)) (A_it (I := (fun r => fr P M0 r.2)) (fun x hx => fz_M_layWorlds_b138 w114 x hx) h_M_66) ?_
    rintro M_83 h_M_83
    try dsimp only at h_M_83
    try dsimp only
    refine A_lt (fun l1_110 => ?_)
    exact A_some h_M_83
  ·
    exact A_some h_M_66
theorem fz_M_layWorlds {P : Nat → Nat → Prop} {M0 M : Mem}  (w111 : ∀ k, ¬ P 111 k) (w113 : ∀ k, ¬ P 113 k) (w112 : ∀ k, ¬ P 112 k) (w114 : ∀ k, ¬ P 114 k) (h_M : fr P M0 M) : A (fr P M0) (M_layWorlds M) := by
  unfold M_layWorlds
  refine A_bind (J := (fr P M0)) (A_it (I := (fun r => fr P M0 r.2)) (fun x hx => fz_M_layWorlds_b2 w111 x hx) h_M) ?_
  rintro M_9 h_M_9
  try dsimp only at h_M_9
  try dsimp only
  refine A_bind (fz_M_layRows w113 w112 h_M_9) ?_
  rintro M_22 h_M_22
  try dsimp only at h_M_22
  try dsimp only
  refine A_bind (J := (fr P M0)) (A_it (I := (fun r => fr P M0 r.2)) (fun x hx => fz_M_layWorlds_b41 w113 w111 x hx) h_M_22) ?_
  rintro M_31 h_M_31
  try dsimp only at h_M_31
  try dsimp only
  refine A_bind (fz_M_layRows w113 w112 h_M_31) ?_
  rintro M_64 h_M_64
  try dsimp only at h_M_64
  try dsimp only
  refine A_bind (J := (fr P M0)) (A_it (I := (fun r => fr P M0 r.2)) (fun x hx => fz_M_layWorlds_b128 w114 x hx) h_M_64) ?_
  rintro M_73 h_M_73
  try dsimp only at h_M_73
  try dsimp only
  exact A_some h_M_73
theorem fz_M_goOn_b8 {P : Nat → Nat → Prop} {M0 : Mem}  (w81_6 : ¬ P 81 6) : ∀ x, (fr P M0) x → A (sK (fr P M0) (fr P M0)) (M_goOn_b8 x) := by
  rintro M_2 h_M_2
  try dsimp only at h_M_2
  unfold M_goOn_b8
  try dsimp only
  refine A_ite (fun _ => ?_) (fun _ => ?_)
  ·
    refine A_bT (fun x => ?_)
    try dsimp only
    refine A_bT (fun x => ?_)
    try dsimp only
    refine A_ite (fun _ => ?_) (fun _ => ?_)
    ·
      refine A_ltM (fr_up w81_6 h_M_2) (fun M_17 h_M_17 => ?_)
      exact A_some h_M_17
    ·
      exact A_some h_M_2
  ·
    exact A_some h_M_2
theorem fz_M_goOn_b119 {P : Nat → Nat → Prop} {M0 : Mem}  (w81_7 : ¬ P 81 7) : ∀ x, (fr P M0) x → A (sK (fr P M0) (fr P M0)) (M_goOn_b119 x) := by
  rintro M_25 h_M_25
  try dsimp only at h_M_25
  unfold M_goOn_b119
  try dsimp only
  refine A_bT (fun x => ?_)
  try dsimp only
  refine A_bT (fun x => ?_)
  try dsimp only
  refine A_ite (fun _ => ?_) (fun _ => ?_)
  ·
    refine A_ltM (fr_up w81_7 h_M_25) (fun M_35 h_M_35 => ?_)
    exact A_some h_M_35
  ·
    exact A_some h_M_25
theorem fz_M_goOn_b156 {P : Nat → Nat → Prop} {M0 : Mem}  (w81_10 : ¬ P 81 10) : ∀ x, (fun r => fr P M0 r.2) x → A (sK (fun r => fr P M0 r.2) (fr P M0)) (M_goOn_b156 x) := by
  rintro ⟨l2_39, M_40⟩ h_M_40
  try dsimp only at h_M_40
  unfold M_goOn_b156
  try dsimp only
  refine A_ite (fun _ => ?_) (fun _ => ?_)
  ·
    refine A_bT (fun x => ?_)
    try dsimp only
    refine A_ltM (fr_up w81_10 h_M_40) (fun M_49 h_M_49 => ?_)
    refine A_lt (fun l2_50 => ?_)
    exact A_some h_M_49
  ·
    exact A_some h_M_40
theorem fz_M_goOn_b259 {P : Nat → Nat → Prop} {M0 : Mem}  (w81_9 : ¬ P 81 9) (w81_7 : ¬ P 81 7) : ∀ x, (fr P M0) x → A (sK (fr P M0) (fr P M0)) (M_goOn_b259 x) := by
  rintro M_68 h_M_68
  try dsimp only at h_M_68
  unfold M_goOn_b259
  try dsimp only
  refine A_bT (fun x => ?_)
  try dsimp only
  refine A_bT (fun x => ?_)
  try dsimp only
  refine A_ite (fun _ => ?_) (fun _ => ?_)
  ·
    refine A_bind (J := (fr P M0)) ?_ ?_
    ·
      refine A_ite (fun _ => ?_) (fun _ => ?_)
      ·
        refine A_bT (fun x => ?_)
        try dsimp only
        refine A_ltM (fr_up w81_9 h_M_68) (fun M_83 h_M_83 => ?_)
        exact A_some h_M_83
      ·
        exact A_some h_M_68
    rintro M_78 h_M_78
    try dsimp only at h_M_78
    try dsimp only
    refine A_ltM (fr_up w81_7 h_M_78) (fun M_85 h_M_85 => ?_)
    exact A_some h_M_85
  ·
    exact A_some h_M_68
theorem fz_M_goOn {P : Nat → Nat → Prop} {M0 M : Mem}  (w81_6 : ¬ P 81 6) (w81_7 : ¬ P 81 7) (w81_8 : ¬ P 81 8) (w81_10 : ¬ P 81 10) (w81_9 : ¬ P 81 9) (h_M : fr P M0 M) : A (fr P M0) (M_goOn M) := by
  unfold M_goOn
  refine A_ltM (fr_up w81_6 h_M) (fun M_1 h_M_1 => ?_)
  refine A_bind (J := (fr P M0)) (A_it (I := (fr P M0)) (fun x hx => fz_M_goOn_b8 w81_6 x hx) h_M_1) ?_
  rintro M_9 h_M_9
  try dsimp only at h_M_9
  try dsimp only
  refine A_bT (fun x => ?_)
  try dsimp only
  refine A_ltM (fr_up w81_7 h_M_9) (fun M_20 h_M_20 => ?_)
  refine A_ite (fun _ => ?_) (fun _ => ?_)
  ·
    refine A_ltM (fr_up w81_8 h_M_20) (fun M_21 h_M_21 => ?_)
    refine A_ltM (fr_up w81_6 h_M_21) (fun M_22 h_M_22 => ?_)
    refine A_ltM (fr_up w81_7 h_M_22) (fun M_23 h_M_23 => ?_)
    exact A_some h_M_23
  ·
    refine A_bT (fun x => ?_)
    try dsimp only
    refine A_ite (fun _ => ?_) (fun _ => ?_)
    ·
      refine A_bind (J := (fr P M0)) (A_it (I := (fr P M0)) (fun x hx => fz_M_goOn_b119 w81_7 x hx) h_M_20) ?_
      rintro M_32 h_M_32
      try dsimp only at h_M_32
      try dsimp only
      refine A_ltM (fr_up w81_10 h_M_32) (fun M_37 h_M_37 => ?_)
      refine A_lt (fun l2_38 => ?_)
      refine A_bind (J := (fr P M0)) (A_it (I := (fun r => fr P M0 r.2)) (fun x hx => fz_M_goOn_b156 w81_10 x hx) h_M_37) ?_
      rintro M_47 h_M_47
      try dsimp only at h_M_47
      try dsimp only
      refine A_bT (fun x => ?_)
      try dsimp only
      refine A_ltM (fr_up w81_8 h_M_47) (fun M_64 h_M_64 => ?_)
      exact A_some h_M_64
    ·
      refine A_bT (fun x => ?_)
      try dsimp only
      refine A_ite (fun _ => ?_) (fun _ => ?_)
      ·
        refine A_ltM (fr_up w81_9 h_M_20) (fun M_66 h_M_66 => ?_)
        refine A_ltM (fr_up w81_7 h_M_66) (fun M_67 h_M_67 => ?_)
        refine A_bind (J := (fr P M0)) (A_it (I := (fr P M0)) (fun x hx => fz_M_goOn_b259 w81_9 w81_7 x hx) h_M_67) ?_
        rintro M_75 h_M_75
        try dsimp only at h_M_75
        try dsimp only
        refine A_bT (fun x => ?_)
        try dsimp only
        refine A_ltM (fr_up w81_8 h_M_75) (fun M_98 h_M_98 => ?_)
        exact A_some h_M_98
      ·
        refine A_bT (fun x => ?_)
        try dsimp only
        refine A_bT (fun x => ?_)
        try dsimp only
        refine A_ltM (fr_up w81_8 h_M_20) (fun M_105 h_M_105 => ?_)
        exact A_some h_M_105
theorem fz_M_fails {P : Nat → Nat → Prop} {M0 M : Mem} {kind : Int} {place : Int} (w81_4 : ¬ P 81 4) (w81_5 : ¬ P 81 5) (h_M : fr P M0 M) : A (fr P M0) (M_fails kind place M) := by
  unfold M_fails
  refine A_ite (fun _ => ?_) (fun _ => ?_)
  ·
    exact A_some h_M
  ·
    refine A_ltM (fr_up w81_4 h_M) (fun M_1 h_M_1 => ?_)
    refine A_ltM (fr_up w81_5 h_M_1) (fun M_2 h_M_2 => ?_)
    exact A_some h_M_2
theorem fz_M_misplaced {P : Nat → Nat → Prop} {M0 M : Mem}  (w81_4 : ¬ P 81 4) (w81_5 : ¬ P 81 5) (h_M : fr P M0 M) : A (fr P M0) (M_misplaced M) := by
  unfold M_misplaced
  refine A_bT (fun x => ?_)
  try dsimp only
  refine A_bind (fz_M_fails w81_4 w81_5 h_M) ?_
  rintro M_6 h_M_6
  try dsimp only at h_M_6
  try dsimp only
  exact A_some h_M_6
theorem fz_M_fresh {P : Nat → Nat → Prop} {M0 M : Mem} {has_ : Int} (w81_4 : ¬ P 81 4) (w81_5 : ¬ P 81 5) (w81_6 : ¬ P 81 6) (w81_7 : ¬ P 81 7) (w81_8 : ¬ P 81 8) (w81_10 : ¬ P 81 10) (w81_9 : ¬ P 81 9) (h_M : fr P M0 M) : A (fun r => fr P M0 r.2) (M_fresh has_ M) := by
  unfold M_fresh
  refine A_bT (fun x => ?_)
  try dsimp only
  refine A_ite (fun _ => ?_) (fun _ => ?_)
  ·
    exact A_some h_M
  ·
    refine A_bind (J := (fr P M0)) ?_ ?_
    ·
      refine A_ite (fun _ => ?_) (fun _ => ?_)
      ·
        refine A_bind (fz_M_misplaced w81_4 w81_5 h_M) ?_
        rintro M_6 h_M_6
        try dsimp only at h_M_6
        try dsimp only
        exact A_some h_M_6
      ·
        refine A_ite (fun _ => ?_) (fun _ => ?_)
        ·
          refine A_bind (fz_M_fails w81_4 w81_5 h_M) ?_
          rintro M_7 h_M_7
          try dsimp only at h_M_7
          try dsimp only
          exact A_some h_M_7
        ·
          exact A_some h_M
    rintro M_2 h_M_2
    try dsimp only at h_M_2
    try dsimp only
    refine A_lt (fun l2_10 => ?_)
    refine A_bT (fun x => ?_)
    try dsimp only
    refine A_bind (J := (fr P M0)) ?_ ?_
    ·
      refine A_ite (fun _ => ?_) (fun _ => ?_)
      ·
        refine A_bind (fz_M_goOn w81_6 w81_7 w81_8 w81_10 w81_9 h_M_2) ?_
        rintro M_16 h_M_16
        try dsimp only at h_M_16
        try dsimp only
        exact A_some h_M_16
      ·
        exact A_some h_M_2
    rintro M_12 h_M_12
    try dsimp only at h_M_12
    try dsimp only
    exact A_some h_M_12
theorem fz_M_readFact {P : Nat → Nat → Prop} {M0 M : Mem}  (w81_4 : ¬ P 81 4) (w81_5 : ¬ P 81 5) (w81_6 : ¬ P 81 6) (w81_7 : ¬ P 81 7) (w81_8 : ¬ P 81 8) (w81_10 : ¬ P 81 10) (w81_9 : ¬ P 81 9) (w93 : ∀ k, ¬ P 93 k) (w84 : ∀ k, ¬ P 84 k) (h_M : fr P M0 M) : A (fr P M0) (M_readFact M) := by
  unfold M_readFact
  refine A_chk (fun hchk => ?_)
  refine A_bT (fun x => ?_)
  try dsimp only
  refine A_bT (fun x => ?_)
  try dsimp only
  refine A_bind (fz_M_fresh w81_4 w81_5 w81_6 w81_7 w81_8 w81_10 w81_9 h_M) ?_
  rintro ⟨r_14, M_15⟩ h_M_15
  try dsimp only at h_M_15
  try dsimp only
  refine A_chk (fun hchk => ?_)
  refine A_ltM (fr_up (w93 _) h_M_15) (fun M_18 h_M_18 => ?_)
  refine A_chk (fun hchk => ?_)
  refine A_ltM (fr_up (w84 _) h_M_18) (fun M_21 h_M_21 => ?_)
  exact A_some h_M_21
theorem fz_M_must {P : Nat → Nat → Prop} {M0 M : Mem} {is_ : Int} (w81_6 : ¬ P 81 6) (w81_7 : ¬ P 81 7) (w81_8 : ¬ P 81 8) (w81_10 : ¬ P 81 10) (w81_9 : ¬ P 81 9) (w81_4 : ¬ P 81 4) (w81_5 : ¬ P 81 5) (h_M : fr P M0 M) : A (fr P M0) (M_must is_ M) := by
  unfold M_must
  refine A_bT (fun x => ?_)
  try dsimp only
  refine A_ite (fun _ => ?_) (fun _ => ?_)
  ·
    exact A_some h_M
  ·
    refine A_ite (fun _ => ?_) (fun _ => ?_)
    ·
      refine A_bind (fz_M_goOn w81_6 w81_7 w81_8 w81_10 w81_9 h_M) ?_
      rintro M_2 h_M_2
      try dsimp only at h_M_2
      try dsimp only
      exact A_some h_M_2
    ·
      refine A_bind (fz_M_misplaced w81_4 w81_5 h_M) ?_
      rintro M_3 h_M_3
      try dsimp only at h_M_3
      try dsimp only
      exact A_some h_M_3
theorem fz_M_after {P : Nat → Nat → Prop} {M0 M : Mem} {word : Int} {most : Int} (w81_6 : ¬ P 81 6) (w81_7 : ¬ P 81 7) (w81_8 : ¬ P 81 8) (w81_10 : ¬ P 81 10) (w81_9 : ¬ P 81 9) (w81_4 : ¬ P 81 4) (w81_5 : ¬ P 81 5) (h_M : fr P M0 M) : A (fun r => fr P M0 r.2) (M_after word most M) := by
  unfold M_after
  refine A_bT (fun x => ?_)
  try dsimp only
  refine A_bind (fz_M_must w81_6 w81_7 w81_8 w81_10 w81_9 w81_4 w81_5 h_M) ?_
  rintro M_2 h_M_2
  try dsimp only at h_M_2
  try dsimp only
  refine A_bT (fun x => ?_)
  try dsimp only
  refine A_ite (fun _ => ?_) (fun _ => ?_)
  ·
    exact A_some h_M_2
  ·
    refine A_bind (J := (fr P M0)) ?_ ?_
    ·
      refine A_ite (fun _ => ?_) (fun _ => ?_)
      ·
        refine A_bind (fz_M_misplaced w81_4 w81_5 h_M_2) ?_
        rintro M_8 h_M_8
        try dsimp only at h_M_8
        try dsimp only
        exact A_some h_M_8
      ·
        refine A_ite (fun _ => ?_) (fun _ => ?_)
        ·
          refine A_bind (fz_M_fails w81_4 w81_5 h_M_2) ?_
          rintro M_9 h_M_9
          try dsimp only at h_M_9
          try dsimp only
          exact A_some h_M_9
        ·
          exact A_some h_M_2
    rintro M_4 h_M_4
    try dsimp only at h_M_4
    try dsimp only
    refine A_lt (fun l4_12 => ?_)
    refine A_bT (fun x => ?_)
    try dsimp only
    refine A_bind (J := (fr P M0)) ?_ ?_
    ·
      refine A_ite (fun _ => ?_) (fun _ => ?_)
      ·
        refine A_bind (fz_M_goOn w81_6 w81_7 w81_8 w81_10 w81_9 h_M_4) ?_
        rintro M_18 h_M_18
        try dsimp only at h_M_18
        try dsimp only
        exact A_some h_M_18
      ·
        exact A_some h_M_4
    rintro M_14 h_M_14
    try dsimp only at h_M_14
    try dsimp only
    exact A_some h_M_14
theorem fz_M_told {P : Nat → Nat → Prop} {M0 M : Mem} {which : Int} (w81_4 : ¬ P 81 4) (w81_5 : ¬ P 81 5) (w81_6 : ¬ P 81 6) (w81_7 : ¬ P 81 7) (w81_8 : ¬ P 81 8) (w81_10 : ¬ P 81 10) (w81_9 : ¬ P 81 9) (h_M : fr P M0 M) : A (fun r => fr P M0 r.2) (M_told which M) := by
  unfold M_told
  refine A_bT (fun x => ?_)
  try dsimp only
  refine A_ite (fun _ => ?_) (fun _ => ?_)
  ·
    exact A_some h_M
  ·
    refine A_bind (J := (fr P M0)) ?_ ?_
    ·
      refine A_ite (fun _ => ?_) (fun _ => ?_)
      ·
        refine A_bind (fz_M_misplaced w81_4 w81_5 h_M) ?_
        rintro M_6 h_M_6
        try dsimp only at h_M_6
        try dsimp only
        exact A_some h_M_6
      ·
        refine A_ite (fun _ => ?_) (fun _ => ?_)
        ·
          refine A_bind (fz_M_fails w81_4 w81_5 h_M) ?_
          rintro M_7 h_M_7
          try dsimp only at h_M_7
          try dsimp only
          exact A_some h_M_7
        ·
          exact A_some h_M
    rintro M_2 h_M_2
    try dsimp only at h_M_2
    try dsimp only
    refine A_bT (fun x => ?_)
    try dsimp only
    refine A_bind (J := (fr P M0)) ?_ ?_
    ·
      refine A_ite (fun _ => ?_) (fun _ => ?_)
      ·
        refine A_bind (fz_M_goOn w81_6 w81_7 w81_8 w81_10 w81_9 h_M_2) ?_
        rintro M_15 h_M_15
        try dsimp only at h_M_15
        try dsimp only
        exact A_some h_M_15
      ·
        exact A_some h_M_2
    rintro M_11 h_M_11
    try dsimp only at h_M_11
    try dsimp only
    refine A_ite (fun _ => ?_) (fun _ => ?_)
    ·
      exact A_some h_M_11
    ·
      exact A_some h_M_11
theorem fz_M_readPerson_b99 {P : Nat → Nat → Prop} {M0 : Mem} {l1_3 : Int} (w81_4 : ¬ P 81 4) (w81_5 : ¬ P 81 5) (w81_6 : ¬ P 81 6) (w81_7 : ¬ P 81 7) (w81_8 : ¬ P 81 8) (w81_10 : ¬ P 81 10) (w81_9 : ¬ P 81 9) (w97 : ∀ k, ¬ P 97 k) : ∀ x, (fun r => fr P M0 r.2) x → A (sK (fun r => fr P M0 r.2) (fr P M0)) (M_readPerson_b99 l1_3 x) := by
  rintro ⟨l2_30, M_31⟩ h_M_31
  try dsimp only at h_M_31
  unfold M_readPerson_b99
  try dsimp only
  refine A_bT (fun x => ?_)
  try dsimp only
  refine A_ite (fun _ => ?_) (fun _ => ?_)
  ·
    refine A_ite (fun _ => ?_) (fun _ => ?_)
    ·
      refine A_bT (fun x => ?_)
      try dsimp only
      refine A_bind (J := (fr P M0)) ?_ ?_
      ·
        refine A_bT (fun x => ?_)
        try dsimp only
        refine A_ite (fun _ => ?_) (fun _ => ?_)
        ·
          refine A_bind (fz_M_fails w81_4 w81_5 h_M_31) ?_
          rintro M_50 h_M_50
          try dsimp only at h_M_50
          try dsimp only
          exact A_some h_M_50
        ·
          exact A_some h_M_31
      rintro M_41 h_M_41
      try dsimp only at h_M_41
      try dsimp only
      refine A_bind (fz_M_told w81_4 w81_5 w81_6 w81_7 w81_8 w81_10 w81_9 h_M_41) ?_
      rintro ⟨r_51, M_52⟩ h_M_52
      try dsimp only at h_M_52
      try dsimp only
      refine A_ltM (fr_up (w97 _) h_M_52) (fun M_53 h_M_53 => ?_)
      exact A_some h_M_53
    ·
      exact A_some h_M_31
  ·
    exact A_some h_M_31
theorem fz_M_readPerson {P : Nat → Nat → Prop} {M0 M : Mem}  (w81_4 : ¬ P 81 4) (w81_5 : ¬ P 81 5) (w81_6 : ¬ P 81 6) (w81_7 : ¬ P 81 7) (w81_8 : ¬ P 81 8) (w81_10 : ¬ P 81 10) (w81_9 : ¬ P 81 9) (w94 : ∀ k, ¬ P 94 k) (w96 : ∀ k, ¬ P 96 k) (w97 : ∀ k, ¬ P 97 k) (w85 : ∀ k, ¬ P 85 k) (h_M : fr P M0 M) : A (fr P M0) (M_readPerson M) := by
  unfold M_readPerson
  refine A_chk (fun hchk => ?_)
  refine A_lt (fun l1_3 => ?_)
  refine A_bT (fun x => ?_)
  try dsimp only
  refine A_bT (fun x => ?_)
  try dsimp only
  refine A_bind (fz_M_fresh w81_4 w81_5 w81_6 w81_7 w81_8 w81_10 w81_9 h_M) ?_
  rintro ⟨r_10, M_11⟩ h_M_11
  try dsimp only at h_M_11
  try dsimp only
  refine A_chk (fun hchk => ?_)
  refine A_ltM (fr_up (w94 _) h_M_11) (fun M_14 h_M_14 => ?_)
  refine A_bind (fz_M_after w81_6 w81_7 w81_8 w81_10 w81_9 w81_4 w81_5 h_M_14) ?_
  rintro ⟨r_15, M_16⟩ h_M_16
  try dsimp only at h_M_16
  try dsimp only
  refine A_ltM (fr_up (w96 _) h_M_16) (fun M_17 h_M_17 => ?_)
  refine A_ltM (fr_up (w97 _) h_M_17) (fun M_18 h_M_18 => ?_)
  refine A_chk (fun hchk => ?_)
  refine A_ltM (fr_up (w85 _) h_M_18) (fun M_21 h_M_21 => ?_)
  refine A_bT (fun x => ?_)
  try dsimp only
  refine A_bT (fun x => ?_)
  try dsimp only
  refine A_ite (fun _ => ?_) (fun _ => ?_)
  ·
    exact A_some h_M_21
  ·
    refine A_bind (fz_M_goOn w81_6 w81_7 w81_8 w81_10 w81_9 h_M_21) ?_
    rintro M_29 h_M_29
    try dsimp only at h_M_29
    try dsimp only
    refine A_bind (J := (fr P M0)) (A_it (I := (fun r => fr P M0 r.2)) (fun x hx => fz_M_readPerson_b99 w81_4 w81_5 w81_6 w81_7 w81_8 w81_10 w81_9 w97 x hx) h_M_29) ?_
    rintro M_38 h_M_38
    try dsimp only at h_M_38
    try dsimp only
    exact A_some h_M_38
theorem fz_M_pushE {P : Nat → Nat → Prop} {M0 M : Mem} {what : Int} {sign : Int} {n_ : Int} (w108 : ∀ k, ¬ P 108 k) (w109 : ∀ k, ¬ P 109 k) (w110 : ∀ k, ¬ P 110 k) (w81_42 : ¬ P 81 42) (h_M : fr P M0 M) : A (fr P M0) (M_pushE what sign n_ M) := by
  unfold M_pushE
  refine A_chk (fun hchk => ?_)
  refine A_ltM (fr_up (w108 _) h_M) (fun M_3 h_M_3 => ?_)
  refine A_chk (fun hchk => ?_)
  refine A_ltM (fr_up (w109 _) h_M_3) (fun M_6 h_M_6 => ?_)
  refine A_chk (fun hchk => ?_)
  refine A_ltM (fr_up (w110 _) h_M_6) (fun M_9 h_M_9 => ?_)
  refine A_ltM (fr_up w81_42 h_M_9) (fun M_10 h_M_10 => ?_)
  exact A_some h_M_10
theorem fz_M_opens {P : Nat → Nat → Prop} {M0 M : Mem} {what : Int} {sign : Int} {n_ : Int} (w108 : ∀ k, ¬ P 108 k) (w109 : ∀ k, ¬ P 109 k) (w110 : ∀ k, ¬ P 110 k) (w81_42 : ¬ P 81 42) (w81_41 : ¬ P 81 41) (h_M : fr P M0 M) : A (fun r => fr P M0 r.2) (M_opens what sign n_ M) := by
  unfold M_opens
  refine A_bind (fz_M_pushE w108 w109 w110 w81_42 h_M) ?_
  rintro M_1 h_M_1
  try dsimp only at h_M_1
  try dsimp only
  refine A_ltM (fr_up w81_41 h_M_1) (fun M_2 h_M_2 => ?_)
  exact A_some h_M_2
theorem fz_M_emit {P : Nat → Nat → Prop} {M0 M : Mem} {c : Int} {n_ : Int} (w106 : ∀ k, ¬ P 106 k) (w107 : ∀ k, ¬ P 107 k) (w81_40 : ¬ P 81 40) (h_M : fr P M0 M) : A (fr P M0) (M_emit c n_ M) := by
  unfold M_emit
  refine A_chk (fun hchk => ?_)
  refine A_ltM (fr_up (w106 _) h_M) (fun M_3 h_M_3 => ?_)
  refine A_chk (fun hchk => ?_)
  refine A_ltM (fr_up (w107 _) h_M_3) (fun M_6 h_M_6 => ?_)
  refine A_ltM (fr_up w81_40 h_M_6) (fun M_7 h_M_7 => ?_)
  exact A_some h_M_7
theorem fz_M_part {P : Nat → Nat → Prop} {M0 M : Mem}  (w81_4 : ¬ P 81 4) (w81_5 : ¬ P 81 5) (w90 : ∀ k, ¬ P 90 k) (w81_6 : ¬ P 81 6) (w81_7 : ¬ P 81 7) (w81_8 : ¬ P 81 8) (w81_10 : ¬ P 81 10) (w81_9 : ¬ P 81 9) (w108 : ∀ k, ¬ P 108 k) (w109 : ∀ k, ¬ P 109 k) (w110 : ∀ k, ¬ P 110 k) (w81_42 : ¬ P 81 42) (w81_41 : ¬ P 81 41) (w106 : ∀ k, ¬ P 106 k) (w107 : ∀ k, ¬ P 107 k) (w81_40 : ¬ P 81 40) (h_M : fr P M0 M) : A (fun r => fr P M0 r.2) (M_part M) := by
  unfold M_part
  refine A_bT (fun x => ?_)
  try dsimp only
  refine A_bT (fun x => ?_)
  try dsimp only
  refine A_bind (J := (fr P M0)) ?_ ?_
  ·
    refine A_jn (J := fun _ => True) (fun _ _ => ?_) (fun j_19 hj_19 => ?_)
    ·
      refine A_bind (fz_M_misplaced w81_4 w81_5 h_M) ?_
      rintro M_37 h_M_37
      try dsimp only at h_M_37
      try dsimp only
      exact A_some h_M_37
    refine A_bT (fun x => ?_)
    try dsimp only
    refine A_ite (fun _ => ?_) (fun _ => ?_)
    ·
      refine A_ite (fun _ => ?_) (fun _ => ?_)
      ·
        exact hj_19 _ trivial
      ·
        exact A_some h_M
    ·
      exact hj_19 _ trivial
  rintro M_15 h_M_15
  try dsimp only at h_M_15
  try dsimp only
  refine A_bT (fun x => ?_)
  try dsimp only
  refine A_ite (fun _ => ?_) (fun _ => ?_)
  ·
    exact A_some h_M_15
  ·
    refine A_chk (fun hchk => ?_)
    refine A_ltM (fr_up (w90 _) h_M_15) (fun M_41 h_M_41 => ?_)
    refine A_lt (fun l3_42 => ?_)
    refine A_bind (fz_M_goOn w81_6 w81_7 w81_8 w81_10 w81_9 h_M_41) ?_
    rintro M_43 h_M_43
    try dsimp only at h_M_43
    try dsimp only
    refine A_ite (fun _ => ?_) (fun _ => ?_)
    ·
      refine A_bind (fz_M_opens w108 w109 w110 w81_42 w81_41 h_M_43) ?_
      rintro ⟨r_44, M_45⟩ h_M_45
      try dsimp only at h_M_45
      try dsimp only
      refine A_chk (fun hchk => ?_)
      exact A_some h_M_45
    ·
      refine A_bind (fz_M_emit w106 w107 w81_40 h_M_43) ?_
      rintro M_47 h_M_47
      try dsimp only at h_M_47
      try dsimp only
      exact A_some h_M_47
theorem fz_M_mindful {P : Nat → Nat → Prop} {M0 M : Mem} {sign : Int} (w81_6 : ¬ P 81 6) (w81_7 : ¬ P 81 7) (w81_8 : ¬ P 81 8) (w81_10 : ¬ P 81 10) (w81_9 : ¬ P 81 9) (w81_45 : ¬ P 81 45) (w81_4 : ¬ P 81 4) (w81_5 : ¬ P 81 5) (w108 : ∀ k, ¬ P 108 k) (w109 : ∀ k, ¬ P 109 k) (w110 : ∀ k, ¬ P 110 k) (w81_42 : ¬ P 81 42) (w81_41 : ¬ P 81 41) (h_M : fr P M0 M) : A (fun r => fr P M0 r.2) (M_mindful sign M) := by
  unfold M_mindful
  refine A_bind (fz_M_goOn w81_6 w81_7 w81_8 w81_10 w81_9 h_M) ?_
  rintro M_1 h_M_1
  try dsimp only at h_M_1
  try dsimp only
  refine A_ltM (fr_up w81_45 h_M_1) (fun M_2 h_M_2 => ?_)
  refine A_bT (fun x => ?_)
  try dsimp only
  refine A_bind (fz_M_told w81_4 w81_5 w81_6 w81_7 w81_8 w81_10 w81_9 h_M_2) ?_
  rintro ⟨r_4, M_5⟩ h_M_5
  try dsimp only at h_M_5
  try dsimp only
  refine A_bind (fz_M_opens w108 w109 w110 w81_42 w81_41 h_M_5) ?_
  rintro ⟨r_6, M_7⟩ h_M_7
  try dsimp only at h_M_7
  try dsimp only
  refine A_chk (fun hchk => ?_)
  exact A_some h_M_7
theorem fz_M_unit {P : Nat → Nat → Prop} {M0 M : Mem}  (w81_4 : ¬ P 81 4) (w81_5 : ¬ P 81 5) (w81_6 : ¬ P 81 6) (w81_7 : ¬ P 81 7) (w81_8 : ¬ P 81 8) (w81_10 : ¬ P 81 10) (w81_9 : ¬ P 81 9) (w81_45 : ¬ P 81 45) (w108 : ∀ k, ¬ P 108 k) (w109 : ∀ k, ¬ P 109 k) (w110 : ∀ k, ¬ P 110 k) (w81_42 : ¬ P 81 42) (w81_41 : ¬ P 81 41) (w90 : ∀ k, ¬ P 90 k) (w106 : ∀ k, ¬ P 106 k) (w107 : ∀ k, ¬ P 107 k) (w81_40 : ¬ P 81 40) (h_M : fr P M0 M) : A (fun r => fr P M0 r.2) (M_unit M) := by
  unfold M_unit
  refine A_bT (fun x => ?_)
  try dsimp only
  refine A_bT (fun x => ?_)
  try dsimp only
  refine A_bT (fun x => ?_)
  try dsimp only
  refine A_bT (fun x => ?_)
  try dsimp only
  refine A_bT (fun x => ?_)
  try dsimp only
  refine A_bind (J := (fr P M0)) ?_ ?_
  ·
    refine A_jn (J := fun _ => True) (fun _ _ => ?_) (fun j_28 hj_28 => ?_)
    ·
      refine A_bind (fz_M_misplaced w81_4 w81_5 h_M) ?_
      rintro M_60 h_M_60
      try dsimp only at h_M_60
      try dsimp only
      exact A_some h_M_60
    refine A_jn (J := fun _ => True) (fun _ _ => ?_) (fun j_31 hj_31 => ?_)
    ·
      refine A_ite (fun _ => ?_) (fun _ => ?_)
      ·
        refine A_ite (fun _ => ?_) (fun _ => ?_)
        ·
          exact hj_28 _ trivial
        ·
          exact A_some h_M
      ·
        exact hj_28 _ trivial
    refine A_ite (fun _ => ?_) (fun _ => ?_)
    ·
      refine A_bT (fun x => ?_)
      try dsimp only
      refine A_ite (fun _ => ?_) (fun _ => ?_)
      ·
        exact hj_31 _ trivial
      ·
        exact hj_28 _ trivial
    ·
      exact hj_31 _ trivial
  rintro M_24 h_M_24
  try dsimp only at h_M_24
  try dsimp only
  refine A_bT (fun x => ?_)
  try dsimp only
  refine A_ite (fun _ => ?_) (fun _ => ?_)
  ·
    exact A_some h_M_24
  ·
    refine A_ite (fun _ => ?_) (fun _ => ?_)
    ·
      refine A_bT (fun x => ?_)
      try dsimp only
      refine A_bT (fun x => ?_)
      try dsimp only
      refine A_bind (fz_M_mindful w81_6 w81_7 w81_8 w81_10 w81_9 w81_45 w81_4 w81_5 w108 w109 w110 w81_42 w81_41 h_M_24) ?_
      rintro ⟨r_68, M_69⟩ h_M_69
      try dsimp only at h_M_69
      try dsimp only
      refine A_chk (fun hchk => ?_)
      exact A_some h_M_69
    ·
      refine A_ite (fun _ => ?_) (fun _ => ?_)
      ·
        refine A_bind (fz_M_goOn w81_6 w81_7 w81_8 w81_10 w81_9 h_M_24) ?_
        rintro M_71 h_M_71
        try dsimp only at h_M_71
        try dsimp only
        refine A_bind (fz_M_opens w108 w109 w110 w81_42 w81_41 h_M_71) ?_
        rintro ⟨r_72, M_73⟩ h_M_73
        try dsimp only at h_M_73
        try dsimp only
        refine A_chk (fun hchk => ?_)
        exact A_some h_M_73
      ·
        refine A_chk (fun hchk => ?_)
        refine A_ltM (fr_up (w90 _) h_M_24) (fun M_77 h_M_77 => ?_)
        refine A_ite (fun _ => ?_) (fun _ => ?_)
        ·
          refine A_bind (fz_M_goOn w81_6 w81_7 w81_8 w81_10 w81_9 h_M_77) ?_
          rintro M_78 h_M_78
          try dsimp only at h_M_78
          try dsimp only
          refine A_bind (fz_M_opens w108 w109 w110 w81_42 w81_41 h_M_78) ?_
          rintro ⟨r_79, M_80⟩ h_M_80
          try dsimp only at h_M_80
          try dsimp only
          refine A_chk (fun hchk => ?_)
          exact A_some h_M_80
        ·
          refine A_bT (fun x => ?_)
          try dsimp only
          refine A_bT (fun x => ?_)
          try dsimp only
          refine A_bind (J := (fr P M0)) ?_ ?_
          ·
            refine A_ite (fun _ => ?_) (fun _ => ?_)
            ·
              refine A_jn (J := fun _ => True) (fun _ _ => ?_) (fun j_88 hj_88 => ?_)
              ·
                refine A_bind (fz_M_fails w81_4 w81_5 h_M_77) ?_
                rintro M_99 h_M_99
                try dsimp only at h_M_99
                try dsimp only
                exact A_some h_M_99
              refine A_ite (fun _ => ?_) (fun _ => ?_)
              ·
                refine A_bT (fun x => ?_)
                try dsimp only
                refine A_ite (fun _ => ?_) (fun _ => ?_)
                ·
                  exact hj_88 _ trivial
                ·
                  exact A_some h_M_77
              ·
                exact hj_88 _ trivial
            ·
              exact A_some h_M_77
          rintro M_84 h_M_84
          try dsimp only at h_M_84
          try dsimp only
          refine A_bT (fun x => ?_)
          try dsimp only
          refine A_ite (fun _ => ?_) (fun _ => ?_)
          ·
            exact A_some h_M_84
          ·
            refine A_bT (fun x => ?_)
            try dsimp only
            refine A_chk (fun hchk => ?_)
            refine A_ltM (fr_up w81_45 h_M_84) (fun M_118 h_M_118 => ?_)
            refine A_bT (fun x => ?_)
            try dsimp only
            refine A_bT (fun x => ?_)
            try dsimp only
            refine A_bind (fz_M_emit w106 w107 w81_40 h_M_118) ?_
            rintro M_129 h_M_129
            try dsimp only at h_M_129
            try dsimp only
            refine A_bind (fz_M_goOn w81_6 w81_7 w81_8 w81_10 w81_9 h_M_129) ?_
            rintro M_130 h_M_130
            try dsimp only at h_M_130
            try dsimp only
            exact A_some h_M_130
theorem fz_M_behindUnit_b29 {P : Nat → Nat → Prop} {M0 : Mem} {r_1 : Int} (w81_42 : ¬ P 81 42) (w81_41 : ¬ P 81 41) (w106 : ∀ k, ¬ P 106 k) (w107 : ∀ k, ¬ P 107 k) (w81_40 : ¬ P 81 40) : ∀ x, (fr P M0) x → A (sK (fr P M0) (fr P M0)) (M_behindUnit_b29 r_1 x) := by
  rintro M_14 h_M_14
  try dsimp only at h_M_14
  unfold M_behindUnit_b29
  try dsimp only
  refine A_chk (fun hchk => ?_)
  refine A_bT (fun x => ?_)
  try dsimp only
  refine A_ite (fun _ => ?_) (fun _ => ?_)
  ·
    refine A_ltM (fr_up w81_42 h_M_14) (fun M_29 h_M_29 => ?_)
    refine A_chk (fun hchk => ?_)
    refine A_bind (J := (fr P M0)) ?_ ?_
    ·
      refine A_ite (fun _ => ?_) (fun _ => ?_)
      ·
        refine A_ltM (fr_up w81_41 h_M_29) (fun M_36 h_M_36 => ?_)
        exact A_some h_M_36
      ·
        exact A_some h_M_29
    rintro M_32 h_M_32
    try dsimp only at h_M_32
    try dsimp only
    refine A_chk (fun hchk => ?_)
    refine A_bind (fz_M_emit w106 w107 w81_40 h_M_32) ?_
    rintro M_40 h_M_40
    try dsimp only at h_M_40
    try dsimp only
    exact A_some h_M_40
  ·
    exact A_some h_M_14
theorem fz_M_behindUnit {P : Nat → Nat → Prop} {M0 M : Mem}  (w81_42 : ¬ P 81 42) (w81_41 : ¬ P 81 41) (w106 : ∀ k, ¬ P 106 k) (w107 : ∀ k, ¬ P 107 k) (w81_40 : ¬ P 81 40) (w108 : ∀ k, ¬ P 108 k) (w109 : ∀ k, ¬ P 109 k) (w110 : ∀ k, ¬ P 110 k) (w81_6 : ¬ P 81 6) (w81_7 : ¬ P 81 7) (w81_8 : ¬ P 81 8) (w81_10 : ¬ P 81 10) (w81_9 : ¬ P 81 9) (w81_4 : ¬ P 81 4) (w81_5 : ¬ P 81 5) (h_M : fr P M0 M) : A (fun r => fr P M0 r.2) (M_behindUnit M) := by
  unfold M_behindUnit
  refine A_bT (fun x => ?_)
  try dsimp only
  refine A_jn (J := fr P M0) (fun M_2 h_M_2 => ?_) (fun j_3 hj_3 => ?_)
  ·
    refine A_bind (J := (fr P M0)) (A_it (I := (fr P M0)) (fun x hx => fz_M_behindUnit_b29 w81_42 w81_41 w106 w107 w81_40 x hx) h_M_2) ?_
    rintro M_21 h_M_21
    try dsimp only at h_M_21
    try dsimp only
    refine A_ite (fun _ => ?_) (fun _ => ?_)
    ·
      refine A_bT (fun x => ?_)
      try dsimp only
      refine A_bind (fz_M_pushE w108 w109 w110 w81_42 h_M_21) ?_
      rintro M_49 h_M_49
      try dsimp only at h_M_49
      try dsimp only
      refine A_bind (fz_M_goOn w81_6 w81_7 w81_8 w81_10 w81_9 h_M_49) ?_
      rintro M_50 h_M_50
      try dsimp only at h_M_50
      try dsimp only
      exact A_some h_M_50
    ·
      refine A_ltM (fr_up w81_42 h_M_21) (fun M_51 h_M_51 => ?_)
      refine A_chk (fun hchk => ?_)
      refine A_bind (J := (fr P M0)) ?_ ?_
      ·
        refine A_ite (fun _ => ?_) (fun _ => ?_)
        ·
          refine A_ltM (fr_up w81_41 h_M_51) (fun M_58 h_M_58 => ?_)
          refine A_bT (fun x => ?_)
          try dsimp only
          refine A_bind (fz_M_must w81_6 w81_7 w81_8 w81_10 w81_9 w81_4 w81_5 h_M_58) ?_
          rintro M_60 h_M_60
          try dsimp only at h_M_60
          try dsimp only
          exact A_some h_M_60
        ·
          exact A_some h_M_51
      rintro M_54 h_M_54
      try dsimp only at h_M_54
      try dsimp only
      exact A_some h_M_54
  refine A_bT (fun x => ?_)
  try dsimp only
  refine A_ite (fun _ => ?_) (fun _ => ?_)
  ·
    refine A_bind (fz_M_misplaced w81_4 w81_5 h_M) ?_
    rintro M_13 h_M_13
    try dsimp only at h_M_13
    try dsimp only
    exact A_some h_M_13
  ·
    exact hj_3 _ h_M
theorem fz_M_e_b20 {P : Nat → Nat → Prop} {M0 : Mem}  (w81_4 : ¬ P 81 4) (w81_5 : ¬ P 81 5) (w90 : ∀ k, ¬ P 90 k) (w81_6 : ¬ P 81 6) (w81_7 : ¬ P 81 7) (w81_8 : ¬ P 81 8) (w81_10 : ¬ P 81 10) (w81_9 : ¬ P 81 9) (w108 : ∀ k, ¬ P 108 k) (w109 : ∀ k, ¬ P 109 k) (w110 : ∀ k, ¬ P 110 k) (w81_42 : ¬ P 81 42) (w81_41 : ¬ P 81 41) (w106 : ∀ k, ¬ P 106 k) (w107 : ∀ k, ¬ P 107 k) (w81_40 : ¬ P 81 40) (w81_45 : ¬ P 81 45) : ∀ x, (fun r => fr P M0 r.2) x → A (sK (fun r => fr P M0 r.2) (fr P M0)) (M_e_b20 x) := by
  rintro ⟨l1_4, M_5⟩ h_M_5
  try dsimp only at h_M_5
  unfold M_e_b20
  try dsimp only
  refine A_bT (fun x => ?_)
  try dsimp only
  refine A_ite (fun _ => ?_) (fun _ => ?_)
  ·
    refine A_bind (J := (fun r => fr P M0 r.2)) ?_ ?_
    ·
      refine A_ite (fun _ => ?_) (fun _ => ?_)
      ·
        refine A_ite (fun _ => ?_) (fun _ => ?_)
        ·
          refine A_bind (fz_M_part w81_4 w81_5 w90 w81_6 w81_7 w81_8 w81_10 w81_9 w108 w109 w110 w81_42 w81_41 w106 w107 w81_40 h_M_5) ?_
          rintro ⟨r_19, M_20⟩ h_M_20
          try dsimp only at h_M_20
          try dsimp only
          exact A_some h_M_20
        ·
          refine A_bind (fz_M_unit w81_4 w81_5 w81_6 w81_7 w81_8 w81_10 w81_9 w81_45 w108 w109 w110 w81_42 w81_41 w90 w106 w107 w81_40 h_M_5) ?_
          rintro ⟨r_21, M_22⟩ h_M_22
          try dsimp only at h_M_22
          try dsimp only
          exact A_some h_M_22
      ·
        refine A_bind (fz_M_behindUnit w81_42 w81_41 w106 w107 w81_40 w108 w109 w110 w81_6 w81_7 w81_8 w81_10 w81_9 w81_4 w81_5 h_M_5) ?_
        rintro ⟨r_24, M_25⟩ h_M_25
        try dsimp only at h_M_25
        try dsimp only
        exact A_some h_M_25
    rintro ⟨v_14, M_15⟩ h_M_15
    try dsimp only at h_M_15
    try dsimp only
    exact A_some h_M_15
  ·
    exact A_some h_M_5
theorem fz_M_e {P : Nat → Nat → Prop} {M0 M : Mem}  (w81_42 : ¬ P 81 42) (w81_41 : ¬ P 81 41) (w108 : ∀ k, ¬ P 108 k) (w109 : ∀ k, ¬ P 109 k) (w110 : ∀ k, ¬ P 110 k) (w81_4 : ¬ P 81 4) (w81_5 : ¬ P 81 5) (w90 : ∀ k, ¬ P 90 k) (w81_6 : ¬ P 81 6) (w81_7 : ¬ P 81 7) (w81_8 : ¬ P 81 8) (w81_10 : ¬ P 81 10) (w81_9 : ¬ P 81 9) (w106 : ∀ k, ¬ P 106 k) (w107 : ∀ k, ¬ P 107 k) (w81_40 : ¬ P 81 40) (w81_45 : ¬ P 81 45) (h_M : fr P M0 M) : A (fr P M0) (M_e M) := by
  unfold M_e
  refine A_ltM (fr_up w81_42 h_M) (fun M_1 h_M_1 => ?_)
  refine A_ltM (fr_up w81_41 h_M_1) (fun M_2 h_M_2 => ?_)
  refine A_bind (fz_M_pushE w108 w109 w110 w81_42 h_M_2) ?_
  rintro M_3 h_M_3
  try dsimp only at h_M_3
  try dsimp only
  refine A_bind (J := (fr P M0)) (A_it (I := (fun r => fr P M0 r.2)) (fun x hx => fz_M_e_b20 w81_4 w81_5 w90 w81_6 w81_7 w81_8 w81_10 w81_9 w108 w109 w110 w81_42 w81_41 w106 w107 w81_40 w81_45 x hx) h_M_3) ?_
  rintro M_12 h_M_12
  try dsimp only at h_M_12
  try dsimp only
  exact A_some h_M_12
theorem fz_M_readRow {P : Nat → Nat → Prop} {M0 M : Mem}  (w81_4 : ¬ P 81 4) (w81_5 : ¬ P 81 5) (w81_6 : ¬ P 81 6) (w81_7 : ¬ P 81 7) (w81_8 : ¬ P 81 8) (w81_10 : ¬ P 81 10) (w81_9 : ¬ P 81 9) (w95 : ∀ k, ¬ P 95 k) (w104 : ∀ k, ¬ P 104 k) (w81_43 : ¬ P 81 43) (w81_44 : ¬ P 81 44) (w81_45 : ¬ P 81 45) (w81_42 : ¬ P 81 42) (w81_41 : ¬ P 81 41) (w108 : ∀ k, ¬ P 108 k) (w109 : ∀ k, ¬ P 109 k) (w110 : ∀ k, ¬ P 110 k) (w90 : ∀ k, ¬ P 90 k) (w106 : ∀ k, ¬ P 106 k) (w107 : ∀ k, ¬ P 107 k) (w81_40 : ¬ P 81 40) (w105 : ∀ k, ¬ P 105 k) (w92 : ∀ k, ¬ P 92 k) (w86 : ∀ k, ¬ P 86 k) (h_M : fr P M0 M) : A (fr P M0) (M_readRow M) := by
  unfold M_readRow
  refine A_chk (fun hchk => ?_)
  refine A_lt (fun l1_3 => ?_)
  refine A_bT (fun x => ?_)
  try dsimp only
  refine A_bT (fun x => ?_)
  try dsimp only
  refine A_bind (fz_M_fresh w81_4 w81_5 w81_6 w81_7 w81_8 w81_10 w81_9 h_M) ?_
  rintro ⟨r_15, M_16⟩ h_M_16
  try dsimp only at h_M_16
  try dsimp only
  refine A_chk (fun hchk => ?_)
  refine A_ltM (fr_up (w95 _) h_M_16) (fun M_19 h_M_19 => ?_)
  refine A_chk (fun hchk => ?_)
  refine A_lt (fun l2_22 => ?_)
  refine A_chk (fun hchk => ?_)
  refine A_ltM (fr_up (w104 _) h_M_19) (fun M_25 h_M_25 => ?_)
  refine A_ltM (fr_up w81_43 h_M_25) (fun M_26 h_M_26 => ?_)
  refine A_ltM (fr_up w81_44 h_M_26) (fun M_27 h_M_27 => ?_)
  refine A_ltM (fr_up w81_45 h_M_27) (fun M_28 h_M_28 => ?_)
  refine A_bT (fun x => ?_)
  try dsimp only
  refine A_bind (J := (fr P M0)) ?_ ?_
  ·
    refine A_ite (fun _ => ?_) (fun _ => ?_)
    ·
      refine A_bind (fz_M_e w81_42 w81_41 w108 w109 w110 w81_4 w81_5 w90 w81_6 w81_7 w81_8 w81_10 w81_9 w106 w107 w81_40 w81_45 h_M_28) ?_
      rintro M_34 h_M_34
      try dsimp only at h_M_34
      try dsimp only
      exact A_some h_M_34
    ·
      exact A_some h_M_28
  rintro M_30 h_M_30
  try dsimp only at h_M_30
  try dsimp only
  refine A_ltM (fr_up (w105 _) h_M_30) (fun M_36 h_M_36 => ?_)
  refine A_chk (fun hchk => ?_)
  refine A_ltM (fr_up (w92 _) h_M_36) (fun M_38 h_M_38 => ?_)
  refine A_chk (fun hchk => ?_)
  refine A_ltM (fr_up (w86 _) h_M_38) (fun M_41 h_M_41 => ?_)
  exact A_some h_M_41
theorem fz_M_readAlways {P : Nat → Nat → Prop} {M0 M : Mem}  (w104 : ∀ k, ¬ P 104 k) (w81_43 : ¬ P 81 43) (w81_44 : ¬ P 81 44) (w81_42 : ¬ P 81 42) (w81_41 : ¬ P 81 41) (w108 : ∀ k, ¬ P 108 k) (w109 : ∀ k, ¬ P 109 k) (w110 : ∀ k, ¬ P 110 k) (w81_4 : ¬ P 81 4) (w81_5 : ¬ P 81 5) (w90 : ∀ k, ¬ P 90 k) (w81_6 : ¬ P 81 6) (w81_7 : ¬ P 81 7) (w81_8 : ¬ P 81 8) (w81_10 : ¬ P 81 10) (w81_9 : ¬ P 81 9) (w106 : ∀ k, ¬ P 106 k) (w107 : ∀ k, ¬ P 107 k) (w81_40 : ¬ P 81 40) (w81_45 : ¬ P 81 45) (w105 : ∀ k, ¬ P 105 k) (w87 : ∀ k, ¬ P 87 k) (h_M : fr P M0 M) : A (fr P M0) (M_readAlways M) := by
  unfold M_readAlways
  refine A_chk (fun hchk => ?_)
  refine A_lt (fun l1_3 => ?_)
  refine A_chk (fun hchk => ?_)
  refine A_ltM (fr_up (w104 _) h_M) (fun M_6 h_M_6 => ?_)
  refine A_ltM (fr_up w81_43 h_M_6) (fun M_7 h_M_7 => ?_)
  refine A_ltM (fr_up w81_44 h_M_7) (fun M_8 h_M_8 => ?_)
  refine A_bind (fz_M_e w81_42 w81_41 w108 w109 w110 w81_4 w81_5 w90 w81_6 w81_7 w81_8 w81_10 w81_9 w106 w107 w81_40 w81_45 h_M_8) ?_
  rintro M_9 h_M_9
  try dsimp only at h_M_9
  try dsimp only
  refine A_ltM (fr_up (w105 _) h_M_9) (fun M_10 h_M_10 => ?_)
  refine A_chk (fun hchk => ?_)
  refine A_ltM (fr_up (w87 _) h_M_10) (fun M_13 h_M_13 => ?_)
  exact A_some h_M_13
theorem fz_M_readTie {P : Nat → Nat → Prop} {M0 M : Mem}  (w81_4 : ¬ P 81 4) (w81_5 : ¬ P 81 5) (w81_6 : ¬ P 81 6) (w81_7 : ¬ P 81 7) (w81_8 : ¬ P 81 8) (w81_10 : ¬ P 81 10) (w81_9 : ¬ P 81 9) (w98 : ∀ k, ¬ P 98 k) (w99 : ∀ k, ¬ P 99 k) (w100 : ∀ k, ¬ P 100 k) (w88 : ∀ k, ¬ P 88 k) (h_M : fr P M0 M) : A (fr P M0) (M_readTie M) := by
  unfold M_readTie
  refine A_chk (fun hchk => ?_)
  refine A_lt (fun l1_3 => ?_)
  refine A_bT (fun x => ?_)
  try dsimp only
  refine A_bind (fz_M_told w81_4 w81_5 w81_6 w81_7 w81_8 w81_10 w81_9 h_M) ?_
  rintro ⟨r_5, M_6⟩ h_M_6
  try dsimp only at h_M_6
  try dsimp only
  refine A_bT (fun x => ?_)
  try dsimp only
  refine A_bT (fun x => ?_)
  try dsimp only
  refine A_lt (fun l5_18 => ?_)
  refine A_bT (fun x => ?_)
  try dsimp only
  refine A_bT (fun x => ?_)
  try dsimp only
  refine A_bind (J := (fr P M0)) ?_ ?_
  ·
    refine A_ite (fun _ => ?_) (fun _ => ?_)
    ·
      refine A_bind (fz_M_fails w81_4 w81_5 h_M_6) ?_
      rintro M_59 h_M_59
      try dsimp only at h_M_59
      try dsimp only
      exact A_some h_M_59
    ·
      exact A_some h_M_6
  rintro M_55 h_M_55
  try dsimp only at h_M_55
  try dsimp only
  refine A_chk (fun hchk => ?_)
  refine A_ltM (fr_up (w98 _) h_M_55) (fun M_68 h_M_68 => ?_)
  refine A_bind (fz_M_told w81_4 w81_5 w81_6 w81_7 w81_8 w81_10 w81_9 h_M_68) ?_
  rintro ⟨r_69, M_70⟩ h_M_70
  try dsimp only at h_M_70
  try dsimp only
  refine A_ltM (fr_up (w99 _) h_M_70) (fun M_71 h_M_71 => ?_)
  refine A_bind (fz_M_after w81_6 w81_7 w81_8 w81_10 w81_9 w81_4 w81_5 h_M_71) ?_
  rintro ⟨r_72, M_73⟩ h_M_73
  try dsimp only at h_M_73
  try dsimp only
  refine A_ltM (fr_up (w100 _) h_M_73) (fun M_74 h_M_74 => ?_)
  refine A_chk (fun hchk => ?_)
  refine A_ltM (fr_up (w88 _) h_M_74) (fun M_77 h_M_77 => ?_)
  exact A_some h_M_77
theorem fz_M_readWish_b41 {P : Nat → Nat → Prop} {M0 : Mem} {l1_3 : Int} {r_5 : Int} {r_7 : Int} (w81_4 : ¬ P 81 4) (w81_5 : ¬ P 81 5) : ∀ x, (fun r => fr P M0 r.2) x → A (sK (fun r => fr P M0 r.2) (fr P M0)) (M_readWish_b41 l1_3 r_5 r_7 x) := by
  rintro ⟨l4_9, M_10⟩ h_M_10
  try dsimp only at h_M_10
  unfold M_readWish_b41
  try dsimp only
  refine A_bT (fun x => ?_)
  try dsimp only
  refine A_ite (fun _ => ?_) (fun _ => ?_)
  ·
    refine A_bind (J := (fr P M0)) ?_ ?_
    ·
      refine A_bT (fun x => ?_)
      try dsimp only
      refine A_ite (fun _ => ?_) (fun _ => ?_)
      ·
        refine A_bind (fz_M_fails w81_4 w81_5 h_M_10) ?_
        rintro M_35 h_M_35
        try dsimp only at h_M_35
        try dsimp only
        exact A_some h_M_35
      ·
        exact A_some h_M_10
    rintro M_24 h_M_24
    try dsimp only at h_M_24
    try dsimp only
    refine A_lt (fun l4_36 => ?_)
    exact A_some h_M_24
  ·
    exact A_some h_M_10
theorem fz_M_readWish {P : Nat → Nat → Prop} {M0 M : Mem}  (w81_4 : ¬ P 81 4) (w81_5 : ¬ P 81 5) (w81_6 : ¬ P 81 6) (w81_7 : ¬ P 81 7) (w81_8 : ¬ P 81 8) (w81_10 : ¬ P 81 10) (w81_9 : ¬ P 81 9) (w101 : ∀ k, ¬ P 101 k) (w102 : ∀ k, ¬ P 102 k) (w103 : ∀ k, ¬ P 103 k) (w89 : ∀ k, ¬ P 89 k) (h_M : fr P M0 M) : A (fr P M0) (M_readWish M) := by
  unfold M_readWish
  refine A_chk (fun hchk => ?_)
  refine A_lt (fun l1_3 => ?_)
  refine A_bT (fun x => ?_)
  try dsimp only
  refine A_bind (fz_M_told w81_4 w81_5 w81_6 w81_7 w81_8 w81_10 w81_9 h_M) ?_
  rintro ⟨r_5, M_6⟩ h_M_6
  try dsimp only at h_M_6
  try dsimp only
  refine A_bT (fun x => ?_)
  try dsimp only
  refine A_lt (fun l4_8 => ?_)
  refine A_bind (J := (fr P M0)) (A_it (I := (fun r => fr P M0 r.2)) (fun x hx => fz_M_readWish_b41 w81_4 w81_5 x hx) h_M_6) ?_
  rintro M_17 h_M_17
  try dsimp only at h_M_17
  try dsimp only
  refine A_chk (fun hchk => ?_)
  refine A_ltM (fr_up (w101 _) h_M_17) (fun M_39 h_M_39 => ?_)
  refine A_bind (fz_M_told w81_4 w81_5 w81_6 w81_7 w81_8 w81_10 w81_9 h_M_39) ?_
  rintro ⟨r_40, M_41⟩ h_M_41
  try dsimp only at h_M_41
  try dsimp only
  refine A_ltM (fr_up (w102 _) h_M_41) (fun M_42 h_M_42 => ?_)
  refine A_bind (fz_M_after w81_6 w81_7 w81_8 w81_10 w81_9 w81_4 w81_5 h_M_42) ?_
  rintro ⟨r_43, M_44⟩ h_M_44
  try dsimp only at h_M_44
  try dsimp only
  refine A_ltM (fr_up (w103 _) h_M_44) (fun M_45 h_M_45 => ?_)
  refine A_chk (fun hchk => ?_)
  refine A_ltM (fr_up (w89 _) h_M_45) (fun M_48 h_M_48 => ?_)
  exact A_some h_M_48
theorem fz_M_readLaw {P : Nat → Nat → Prop} {M0 M : Mem}  (w104 : ∀ k, ¬ P 104 k) (w81_43 : ¬ P 81 43) (w81_42 : ¬ P 81 42) (w81_41 : ¬ P 81 41) (w108 : ∀ k, ¬ P 108 k) (w109 : ∀ k, ¬ P 109 k) (w110 : ∀ k, ¬ P 110 k) (w81_4 : ¬ P 81 4) (w81_5 : ¬ P 81 5) (w90 : ∀ k, ¬ P 90 k) (w81_6 : ¬ P 81 6) (w81_7 : ¬ P 81 7) (w81_8 : ¬ P 81 8) (w81_10 : ¬ P 81 10) (w81_9 : ¬ P 81 9) (w106 : ∀ k, ¬ P 106 k) (w107 : ∀ k, ¬ P 107 k) (w81_40 : ¬ P 81 40) (w81_45 : ¬ P 81 45) (w105 : ∀ k, ¬ P 105 k) (w91 : ∀ k, ¬ P 91 k) (h_M : fr P M0 M) : A (fr P M0) (M_readLaw M) := by
  unfold M_readLaw
  refine A_lt (fun l1_1 => ?_)
  refine A_chk (fun hchk => ?_)
  refine A_ltM (fr_up (w104 _) h_M) (fun M_4 h_M_4 => ?_)
  refine A_ltM (fr_up w81_43 h_M_4) (fun M_5 h_M_5 => ?_)
  refine A_bind (fz_M_e w81_42 w81_41 w108 w109 w110 w81_4 w81_5 w90 w81_6 w81_7 w81_8 w81_10 w81_9 w106 w107 w81_40 w81_45 h_M_5) ?_
  rintro M_6 h_M_6
  try dsimp only at h_M_6
  try dsimp only
  refine A_ltM (fr_up (w105 _) h_M_6) (fun M_7 h_M_7 => ?_)
  refine A_chk (fun hchk => ?_)
  refine A_ltM (fr_up (w91 _) h_M_7) (fun M_10 h_M_10 => ?_)
  exact A_some h_M_10
theorem fz_M_readLine {P : Nat → Nat → Prop} {M0 M : Mem}  (w81_4 : ¬ P 81 4) (w81_5 : ¬ P 81 5) (w81_6 : ¬ P 81 6) (w81_7 : ¬ P 81 7) (w81_8 : ¬ P 81 8) (w81_10 : ¬ P 81 10) (w81_9 : ¬ P 81 9) (w93 : ∀ k, ¬ P 93 k) (w84 : ∀ k, ¬ P 84 k) (w94 : ∀ k, ¬ P 94 k) (w96 : ∀ k, ¬ P 96 k) (w97 : ∀ k, ¬ P 97 k) (w85 : ∀ k, ¬ P 85 k) (w95 : ∀ k, ¬ P 95 k) (w104 : ∀ k, ¬ P 104 k) (w81_43 : ¬ P 81 43) (w81_44 : ¬ P 81 44) (w81_45 : ¬ P 81 45) (w81_42 : ¬ P 81 42) (w81_41 : ¬ P 81 41) (w108 : ∀ k, ¬ P 108 k) (w109 : ∀ k, ¬ P 109 k) (w110 : ∀ k, ¬ P 110 k) (w90 : ∀ k, ¬ P 90 k) (w106 : ∀ k, ¬ P 106 k) (w107 : ∀ k, ¬ P 107 k) (w81_40 : ¬ P 81 40) (w105 : ∀ k, ¬ P 105 k) (w92 : ∀ k, ¬ P 92 k) (w86 : ∀ k, ¬ P 86 k) (w87 : ∀ k, ¬ P 87 k) (w98 : ∀ k, ¬ P 98 k) (w99 : ∀ k, ¬ P 99 k) (w100 : ∀ k, ¬ P 100 k) (w88 : ∀ k, ¬ P 88 k) (w101 : ∀ k, ¬ P 101 k) (w102 : ∀ k, ¬ P 102 k) (w103 : ∀ k, ¬ P 103 k) (w89 : ∀ k, ¬ P 89 k) (w91 : ∀ k, ¬ P 91 k) (h_M : fr P M0 M) : A (fr P M0) (M_readLine M) := by
  unfold M_readLine
  refine A_lt (fun l1_1 => ?_)
  refine A_bind (J := (fr P M0)) ?_ ?_
  ·
    refine A_bT (fun x => ?_)
    try dsimp only
    refine A_ite (fun _ => ?_) (fun _ => ?_)
    ·
      refine A_bind (fz_M_misplaced w81_4 w81_5 h_M) ?_
      rintro M_12 h_M_12
      try dsimp only at h_M_12
      try dsimp only
      exact A_some h_M_12
    ·
      exact A_some h_M
  rintro M_2 h_M_2
  try dsimp only at h_M_2
  try dsimp only
  refine A_bT (fun x => ?_)
  try dsimp only
  refine A_ite (fun _ => ?_) (fun _ => ?_)
  ·
    exact A_some h_M_2
  ·
    refine A_bind (fz_M_goOn w81_6 w81_7 w81_8 w81_10 w81_9 h_M_2) ?_
    rintro M_14 h_M_14
    try dsimp only at h_M_14
    try dsimp only
    refine A_bind (J := (fr P M0)) ?_ ?_
    ·
      refine A_ite (fun _ => ?_) (fun _ => ?_)
      ·
        refine A_bind (fz_M_readFact w81_4 w81_5 w81_6 w81_7 w81_8 w81_10 w81_9 w93 w84 h_M_14) ?_
        rintro M_19 h_M_19
        try dsimp only at h_M_19
        try dsimp only
        exact A_some h_M_19
      ·
        exact A_some h_M_14
    rintro M_15 h_M_15
    try dsimp only at h_M_15
    try dsimp only
    refine A_bind (J := (fr P M0)) ?_ ?_
    ·
      refine A_ite (fun _ => ?_) (fun _ => ?_)
      ·
        refine A_bind (fz_M_readPerson w81_4 w81_5 w81_6 w81_7 w81_8 w81_10 w81_9 w94 w96 w97 w85 h_M_15) ?_
        rintro M_25 h_M_25
        try dsimp only at h_M_25
        try dsimp only
        exact A_some h_M_25
      ·
        exact A_some h_M_15
    rintro M_21 h_M_21
    try dsimp only at h_M_21
    try dsimp only
    refine A_bind (J := (fr P M0)) ?_ ?_
    ·
      refine A_ite (fun _ => ?_) (fun _ => ?_)
      ·
        refine A_bind (fz_M_readRow w81_4 w81_5 w81_6 w81_7 w81_8 w81_10 w81_9 w95 w104 w81_43 w81_44 w81_45 w81_42 w81_41 w108 w109 w110 w90 w106 w107 w81_40 w105 w92 w86 h_M_21) ?_
        rintro M_31 h_M_31
        try dsimp only at h_M_31
        try dsimp only
        exact A_some h_M_31
      ·
        exact A_some h_M_21
    rintro M_27 h_M_27
    try dsimp only at h_M_27
    try dsimp only
    refine A_bind (J := (fr P M0)) ?_ ?_
    ·
      refine A_ite (fun _ => ?_) (fun _ => ?_)
      ·
        refine A_bind (fz_M_readAlways w104 w81_43 w81_44 w81_42 w81_41 w108 w109 w110 w81_4 w81_5 w90 w81_6 w81_7 w81_8 w81_10 w81_9 w106 w107 w81_40 w81_45 w105 w87 h_M_27) ?_
        rintro M_37 h_M_37
        try dsimp only at h_M_37
        try dsimp only
        exact A_some h_M_37
      ·
        exact A_some h_M_27
    rintro M_33 h_M_33
    try dsimp only at h_M_33
    try dsimp only
    refine A_bind (J := (fr P M0)) ?_ ?_
    ·
      refine A_ite (fun _ => ?_) (fun _ => ?_)
      ·
        refine A_bind (fz_M_readTie w81_4 w81_5 w81_6 w81_7 w81_8 w81_10 w81_9 w98 w99 w100 w88 h_M_33) ?_
        rintro M_43 h_M_43
        try dsimp only at h_M_43
        try dsimp only
        exact A_some h_M_43
      ·
        exact A_some h_M_33
    rintro M_39 h_M_39
    try dsimp only at h_M_39
    try dsimp only
    refine A_bind (J := (fr P M0)) ?_ ?_
    ·
      refine A_ite (fun _ => ?_) (fun _ => ?_)
      ·
        refine A_bind (fz_M_readWish w81_4 w81_5 w81_6 w81_7 w81_8 w81_10 w81_9 w101 w102 w103 w89 h_M_39) ?_
        rintro M_49 h_M_49
        try dsimp only at h_M_49
        try dsimp only
        exact A_some h_M_49
      ·
        exact A_some h_M_39
    rintro M_45 h_M_45
    try dsimp only at h_M_45
    try dsimp only
    refine A_bind (J := (fr P M0)) ?_ ?_
    ·
      refine A_ite (fun _ => ?_) (fun _ => ?_)
      ·
        refine A_bind (fz_M_readLaw w104 w81_43 w81_42 w81_41 w108 w109 w110 w81_4 w81_5 w90 w81_6 w81_7 w81_8 w81_10 w81_9 w106 w107 w81_40 w81_45 w105 w91 h_M_45) ?_
        rintro M_55 h_M_55
        try dsimp only at h_M_55
        try dsimp only
        exact A_some h_M_55
      ·
        exact A_some h_M_45
    rintro M_51 h_M_51
    try dsimp only at h_M_51
    try dsimp only
    refine A_bT (fun x => ?_)
    try dsimp only
    refine A_bind (fz_M_must w81_6 w81_7 w81_8 w81_10 w81_9 w81_4 w81_5 h_M_51) ?_
    rintro M_58 h_M_58
    try dsimp only at h_M_58
    try dsimp only
    exact A_some h_M_58
theorem fz_M_town_b20 {P : Nat → Nat → Prop} {M0 : Mem}  (w83 : ∀ k, ¬ P 83 k) : ∀ x, (fun r => fr P M0 r.2) x → A (sK (fun r => fr P M0 r.2) (fr P M0)) (M_town_b20 x) := by
  rintro ⟨l1_4, M_5⟩ h_M_5
  try dsimp only at h_M_5
  unfold M_town_b20
  try dsimp only
  refine A_ite (fun _ => ?_) (fun _ => ?_)
  ·
    refine A_chk (fun hchk => ?_)
    refine A_chk (fun hchk => ?_)
    refine A_chk (fun hchk => ?_)
    refine A_ltM (fr_up (w83 _) h_M_5) (fun M_19 h_M_19 => ?_)
    refine A_lt (fun l1_20 => ?_)
    exact A_some h_M_19
  ·
    exact A_some h_M_5
theorem fz_M_town_b74 {P : Nat → Nat → Prop} {M0 : Mem}  (w81_4 : ¬ P 81 4) (w81_5 : ¬ P 81 5) (w81_6 : ¬ P 81 6) (w81_7 : ¬ P 81 7) (w81_8 : ¬ P 81 8) (w81_10 : ¬ P 81 10) (w81_9 : ¬ P 81 9) (w93 : ∀ k, ¬ P 93 k) (w84 : ∀ k, ¬ P 84 k) (w94 : ∀ k, ¬ P 94 k) (w96 : ∀ k, ¬ P 96 k) (w97 : ∀ k, ¬ P 97 k) (w85 : ∀ k, ¬ P 85 k) (w95 : ∀ k, ¬ P 95 k) (w104 : ∀ k, ¬ P 104 k) (w81_43 : ¬ P 81 43) (w81_44 : ¬ P 81 44) (w81_45 : ¬ P 81 45) (w81_42 : ¬ P 81 42) (w81_41 : ¬ P 81 41) (w108 : ∀ k, ¬ P 108 k) (w109 : ∀ k, ¬ P 109 k) (w110 : ∀ k, ¬ P 110 k) (w90 : ∀ k, ¬ P 90 k) (w106 : ∀ k, ¬ P 106 k) (w107 : ∀ k, ¬ P 107 k) (w81_40 : ¬ P 81 40) (w105 : ∀ k, ¬ P 105 k) (w92 : ∀ k, ¬ P 92 k) (w86 : ∀ k, ¬ P 86 k) (w87 : ∀ k, ¬ P 87 k) (w98 : ∀ k, ¬ P 98 k) (w99 : ∀ k, ¬ P 99 k) (w100 : ∀ k, ¬ P 100 k) (w88 : ∀ k, ¬ P 88 k) (w101 : ∀ k, ¬ P 101 k) (w102 : ∀ k, ¬ P 102 k) (w103 : ∀ k, ¬ P 103 k) (w89 : ∀ k, ¬ P 89 k) (w91 : ∀ k, ¬ P 91 k) : ∀ x, (fr P M0) x → A (sK (fr P M0) (fr P M0)) (M_town_b74 x) := by
  rintro M_27 h_M_27
  try dsimp only at h_M_27
  unfold M_town_b74
  try dsimp only
  refine A_bT (fun x => ?_)
  try dsimp only
  refine A_ite (fun _ => ?_) (fun _ => ?_)
  ·
    refine A_bind (fz_M_readLine w81_4 w81_5 w81_6 w81_7 w81_8 w81_10 w81_9 w93 w84 w94 w96 w97 w85 w95 w104 w81_43 w81_44 w81_45 w81_42 w81_41 w108 w109 w110 w90 w106 w107 w81_40 w105 w92 w86 w87 w98 w99 w100 w88 w101 w102 w103 w89 w91 h_M_27) ?_
    rintro M_36 h_M_36
    try dsimp only at h_M_36
    try dsimp only
    exact A_some h_M_36
  ·
    exact A_some h_M_27
theorem fz_M_town_b119 {P : Nat → Nat → Prop} {M0 : Mem}  (w132 : ∀ k, ¬ P 132 k) : ∀ x, (fun r => fr P M0 r.2) x → A (sK (fun r => fr P M0 r.2) (fr P M0)) (M_town_b119 x) := by
  rintro ⟨l1_46, M_47⟩ h_M_47
  try dsimp only at h_M_47
  unfold M_town_b119
  try dsimp only
  refine A_ite (fun _ => ?_) (fun _ => ?_)
  ·
    refine A_chk (fun hchk => ?_)
    refine A_ltM (fr_up (w132 _) h_M_47) (fun M_57 h_M_57 => ?_)
    refine A_lt (fun l1_58 => ?_)
    exact A_some h_M_57
  ·
    exact A_some h_M_47
theorem fz_M_town {P : Nat → Nat → Prop} {M0 M : Mem}  (w81_4 : ¬ P 81 4) (w81_5 : ¬ P 81 5) (w81_3 : ¬ P 81 3) (w83 : ∀ k, ¬ P 83 k) (w81_2 : ¬ P 81 2) (w81_7 : ¬ P 81 7) (w81_39 : ¬ P 81 39) (w84 : ∀ k, ¬ P 84 k) (w85 : ∀ k, ¬ P 85 k) (w86 : ∀ k, ¬ P 86 k) (w87 : ∀ k, ¬ P 87 k) (w88 : ∀ k, ¬ P 88 k) (w89 : ∀ k, ¬ P 89 k) (w90 : ∀ k, ¬ P 90 k) (w91 : ∀ k, ¬ P 91 k) (w81_40 : ¬ P 81 40) (w81_6 : ¬ P 81 6) (w81_8 : ¬ P 81 8) (w81_10 : ¬ P 81 10) (w81_9 : ¬ P 81 9) (w93 : ∀ k, ¬ P 93 k) (w94 : ∀ k, ¬ P 94 k) (w96 : ∀ k, ¬ P 96 k) (w97 : ∀ k, ¬ P 97 k) (w95 : ∀ k, ¬ P 95 k) (w104 : ∀ k, ¬ P 104 k) (w81_43 : ¬ P 81 43) (w81_44 : ¬ P 81 44) (w81_45 : ¬ P 81 45) (w81_42 : ¬ P 81 42) (w81_41 : ¬ P 81 41) (w108 : ∀ k, ¬ P 108 k) (w109 : ∀ k, ¬ P 109 k) (w110 : ∀ k, ¬ P 110 k) (w106 : ∀ k, ¬ P 106 k) (w107 : ∀ k, ¬ P 107 k) (w105 : ∀ k, ¬ P 105 k) (w92 : ∀ k, ¬ P 92 k) (w98 : ∀ k, ¬ P 98 k) (w99 : ∀ k, ¬ P 99 k) (w100 : ∀ k, ¬ P 100 k) (w101 : ∀ k, ¬ P 101 k) (w102 : ∀ k, ¬ P 102 k) (w103 : ∀ k, ¬ P 103 k) (w81_38 : ¬ P 81 38) (w81_57 : ¬ P 81 57) (w132 : ∀ k, ¬ P 132 k) (w111 : ∀ k, ¬ P 111 k) (w113 : ∀ k, ¬ P 113 k) (w112 : ∀ k, ¬ P 112 k) (w114 : ∀ k, ¬ P 114 k) (h_M : fr P M0 M) : A (fun r => fr P M0 r.2) (M_town M) := by
  unfold M_town
  refine A_ltM (fr_up w81_4 h_M) (fun M_1 h_M_1 => ?_)
  refine A_ltM (fr_up w81_5 h_M_1) (fun M_2 h_M_2 => ?_)
  refine A_ltM (fr_up w81_3 h_M_2) (fun M_3 h_M_3 => ?_)
  refine A_bind (J := (fr P M0)) (A_it (I := (fun r => fr P M0 r.2)) (fun x hx => fz_M_town_b20 w83 x hx) h_M_3) ?_
  rintro M_12 h_M_12
  try dsimp only at h_M_12
  try dsimp only
  refine A_ltM (fr_up w81_2 h_M_12) (fun M_22 h_M_22 => ?_)
  refine A_ltM (fr_up w81_7 h_M_22) (fun M_23 h_M_23 => ?_)
  refine A_ltM (fr_up w81_39 h_M_23) (fun M_24 h_M_24 => ?_)
  refine A_bind (fz_M_clearBank w84 w85 w86 w87 w88 w89 w90 w91 w81_40 h_M_24) ?_
  rintro M_25 h_M_25
  try dsimp only at h_M_25
  try dsimp only
  refine A_bind (fz_M_goOn w81_6 w81_7 w81_8 w81_10 w81_9 h_M_25) ?_
  rintro M_26 h_M_26
  try dsimp only at h_M_26
  try dsimp only
  refine A_bind (J := (fr P M0)) (A_it (I := (fr P M0)) (fun x hx => fz_M_town_b74 w81_4 w81_5 w81_6 w81_7 w81_8 w81_10 w81_9 w93 w84 w94 w96 w97 w85 w95 w104 w81_43 w81_44 w81_45 w81_42 w81_41 w108 w109 w110 w90 w106 w107 w81_40 w105 w92 w86 w87 w98 w99 w100 w88 w101 w102 w103 w89 w91 x hx) h_M_26) ?_
  rintro M_34 h_M_34
  try dsimp only at h_M_34
  try dsimp only
  refine A_bT (fun x => ?_)
  try dsimp only
  refine A_ite (fun _ => ?_) (fun _ => ?_)
  ·
    exact A_some h_M_34
  ·
    refine A_ltM (fr_up w81_38 h_M_34) (fun M_44 h_M_44 => ?_)
    refine A_ltM (fr_up w81_57 h_M_44) (fun M_45 h_M_45 => ?_)
    refine A_bind (J := (fr P M0)) (A_it (I := (fun r => fr P M0 r.2)) (fun x hx => fz_M_town_b119 w132 x hx) h_M_45) ?_
    rintro M_54 h_M_54
    try dsimp only at h_M_54
    try dsimp only
    refine A_bind (fz_M_layWorlds w111 w113 w112 w114 h_M_54) ?_
    rintro M_60 h_M_60
    try dsimp only at h_M_60
    try dsimp only
    refine A_bT (fun x => ?_)
    try dsimp only
    exact A_some h_M_60
theorem fz_M_mayLie_b50 {P : Nat → Nat → Prop} {M0 : Mem} {set_ : Int} {apart : Int} {surely : Int} {l4_5 : Int} (w115 : ∀ k, ¬ P 115 k) : ∀ x, (fun r => fr P M0 r.2.2) x → A (sK (fun r => fr P M0 r.2.2) (fr P M0)) (M_mayLie_b50 set_ apart surely l4_5 x) := by
  rintro ⟨l5_9, l6_10, M_11⟩ h_M_11
  try dsimp only at h_M_11
  unfold M_mayLie_b50
  try dsimp only
  refine A_ite (fun _ => ?_) (fun _ => ?_)
  ·
    refine A_chk (fun hchk => ?_)
    refine A_bT (fun x => ?_)
    try dsimp only
    refine A_bind (J := (fun r => fr P M0 r.2)) ?_ ?_
    ·
      refine A_ite (fun _ => ?_) (fun _ => ?_)
      ·
        refine A_bT (fun x => ?_)
        try dsimp only
        refine A_chk (fun hchk => ?_)
        refine A_ltM (fr_up (w115 _) h_M_11) (fun M_30 h_M_30 => ?_)
        refine A_lt (fun l5_31 => ?_)
        exact A_some h_M_30
      ·
        refine A_lt (fun l5_32 => ?_)
        refine A_chk (fun hchk => ?_)
        refine A_chk (fun hchk => ?_)
        refine A_bT (fun x => ?_)
        try dsimp only
        refine A_ltM (fr_up (w115 _) h_M_11) (fun M_38 h_M_38 => ?_)
        exact A_some h_M_38
    rintro ⟨l5_22, M_23⟩ h_M_23
    try dsimp only at h_M_23
    try dsimp only
    refine A_lt (fun l6_40 => ?_)
    exact A_some h_M_23
  ·
    exact A_some h_M_11
theorem fz_M_mayLie {P : Nat → Nat → Prop} {M0 M : Mem} {set_ : Int} {apart : Int} {surely : Int} (w115 : ∀ k, ¬ P 115 k) (h_M : fr P M0 M) : A (fun r => fr P M0 r.2) (M_mayLie set_ apart surely M) := by
  unfold M_mayLie
  refine A_chk (fun hchk => ?_)
  refine A_ite (fun _ => ?_) (fun _ => ?_)
  ·
    refine A_bT (fun x => ?_)
    try dsimp only
    refine A_ite (fun _ => ?_) (fun _ => ?_)
    ·
      exact A_some h_M
    ·
      exact A_some h_M
  ·
    refine A_lt (fun l4_5 => ?_)
    refine A_chk (fun hchk => ?_)
    refine A_lt (fun l6_8 => ?_)
    refine A_bind (J := (fr P M0)) (A_it (I := (fun r => fr P M0 r.2.2)) (fun x hx => fz_M_mayLie_b50 w115 x hx) h_M) ?_
    rintro M_18 h_M_18
    try dsimp only at h_M_18
    try dsimp only
    refine A_ite (fun _ => ?_) (fun _ => ?_)
    ·
      exact A_some h_M_18
    ·
      exact A_some h_M_18
theorem fz_M_lies {P : Nat → Nat → Prop} {M0 M : Mem} {set_ : Int} {apart : Int} {surely : Int} (w115 : ∀ k, ¬ P 115 k) (h_M : fr P M0 M) : A (fun r => fr P M0 r.2) (M_lies set_ apart surely M) := by
  unfold M_lies
  refine A_bT (fun x => ?_)
  try dsimp only
  refine A_ite (fun _ => ?_) (fun _ => ?_)
  ·
    exact A_some h_M
  ·
    refine A_bind (fz_M_mayLie w115 h_M) ?_
    rintro ⟨r_2, M_3⟩ h_M_3
    try dsimp only at h_M_3
    try dsimp only
    refine A_ite (fun _ => ?_) (fun _ => ?_)
    ·
      exact A_some h_M_3
    ·
      exact A_some h_M_3
theorem fz_M_canSay_b16 {P : Nat → Nat → Prop} {M0 : Mem} {set_ : Int} {r : Int} {surely : Int} {w : Int} {M_2 : Mem}  (h_M_2 : fr P M0 M_2) : ∀ x, A (sK (fun _ => True) (sK (fun _ => True) (fun r => fr P M0 r.2))) (M_canSay_b16 set_ r surely w M_2 x) := by
  rintro l6_3
  unfold M_canSay_b16
  try dsimp only
  refine A_bT (fun x => ?_)
  try dsimp only
  refine A_ite (fun _ => ?_) (fun _ => ?_)
  ·
    refine A_jn (J := fun _ => True) (fun _ _ => ?_) (fun j_11 hj_11 => ?_)
    ·
      refine A_lt (fun l6_23 => ?_)
      exact A_some trivial
    refine A_ite (fun _ => ?_) (fun _ => ?_)
    ·
      refine A_jn (J := fun _ => True) (fun _ _ => ?_) (fun j_14 hj_14 => ?_)
      ·
        exact A_some h_M_2
      refine A_ite (fun _ => ?_) (fun _ => ?_)
      ·
        refine A_bT (fun x => ?_)
        try dsimp only
        refine A_ite (fun _ => ?_) (fun _ => ?_)
        ·
          exact hj_14 _ trivial
        ·
          exact hj_11 _ trivial
      ·
        refine A_bT (fun x => ?_)
        try dsimp only
        refine A_ite (fun _ => ?_) (fun _ => ?_)
        ·
          exact hj_14 _ trivial
        ·
          exact hj_11 _ trivial
    ·
      exact hj_11 _ trivial
  ·
    exact A_some trivial
theorem fz_M_canSay {P : Nat → Nat → Prop} {M0 M : Mem} {set_ : Int} {r : Int} {apart : Int} {surely : Int} {w : Int} (w115 : ∀ k, ¬ P 115 k) (h_M : fr P M0 M) : A (fun r => fr P M0 r.2) (M_canSay set_ r apart surely w M) := by
  unfold M_canSay
  refine A_bind (fz_M_mayLie w115 h_M) ?_
  rintro ⟨r_1, M_2⟩ h_M_2
  try dsimp only at h_M_2
  try dsimp only
  refine A_ite (fun _ => ?_) (fun _ => ?_)
  ·
    exact A_some h_M_2
  ·
    refine A_bind (J := (sK (fun _ => True) (fun r => fr P M0 r.2))) (A_it (I := fun _ => True) (fun x _ => fz_M_canSay_b16 h_M_2 x) trivial) ?_
    rintro (x | x) hx
    ·
      exact A_some h_M_2
    · exact A_some hx
theorem fz_M_may {P : Nat → Nat → Prop} {M0 M : Mem} {set_ : Int} {r : Int} {apart : Int} {surely : Int} {w : Int} (w115 : ∀ k, ¬ P 115 k) (h_M : fr P M0 M) : A (fun r => fr P M0 r.2) (M_may set_ r apart surely w M) := by
  unfold M_may
  refine A_bT (fun x => ?_)
  try dsimp only
  refine A_bT (fun x => ?_)
  try dsimp only
  refine A_ite (fun _ => ?_) (fun _ => ?_)
  ·
    exact A_some h_M
  ·
    refine A_bind (fz_M_canSay w115 h_M) ?_
    rintro ⟨r_9, M_10⟩ h_M_10
    try dsimp only at h_M_10
    try dsimp only
    refine A_ite (fun _ => ?_) (fun _ => ?_)
    ·
      exact A_some h_M_10
    ·
      exact A_some h_M_10
theorem fz_M_say {P : Nat → Nat → Prop} {M0 M : Mem} {set_ : Int} {r : Int} {apart : Int} {surely : Int} (w116 : ∀ k, ¬ P 116 k) (w117 : ∀ k, ¬ P 117 k) (w120 : ∀ k, ¬ P 120 k) (w121 : ∀ k, ¬ P 121 k) (w118 : ∀ k, ¬ P 118 k) (w119 : ∀ k, ¬ P 119 k) (w81_57 : ¬ P 81 57) (h_M : fr P M0 M) : A (fun r => fr P M0 r.2) (M_say set_ r apart surely M) := by
  unfold M_say
  refine A_bT (fun x => ?_)
  try dsimp only
  refine A_bT (fun x => ?_)
  try dsimp only
  refine A_ite (fun _ => ?_) (fun _ => ?_)
  ·
    exact A_some h_M
  ·
    refine A_chk (fun hchk => ?_)
    refine A_ltM (fr_up (w116 _) h_M) (fun M_10 h_M_10 => ?_)
    refine A_chk (fun hchk => ?_)
    refine A_ltM (fr_up (w117 _) h_M_10) (fun M_13 h_M_13 => ?_)
    refine A_chk (fun hchk => ?_)
    refine A_chk (fun hchk => ?_)
    refine A_ltM (fr_up (w120 _) h_M_13) (fun M_17 h_M_17 => ?_)
    refine A_chk (fun hchk => ?_)
    refine A_chk (fun hchk => ?_)
    refine A_ltM (fr_up (w121 _) h_M_17) (fun M_21 h_M_21 => ?_)
    refine A_chk (fun hchk => ?_)
    refine A_ltM (fr_up (w118 _) h_M_21) (fun M_24 h_M_24 => ?_)
    refine A_chk (fun hchk => ?_)
    refine A_ltM (fr_up (w119 _) h_M_24) (fun M_27 h_M_27 => ?_)
    refine A_ltM (fr_up w81_57 h_M_27) (fun M_28 h_M_28 => ?_)
    exact A_some h_M_28
theorem fz_M_untell {P : Nat → Nat → Prop} {M0 M : Mem} {n_ : Int} (w119 : ∀ k, ¬ P 119 k) (h_M : fr P M0 M) : A (fun r => fr P M0 r.2) (M_untell n_ M) := by
  unfold M_untell
  refine A_bT (fun x => ?_)
  try dsimp only
  refine A_bT (fun x => ?_)
  try dsimp only
  refine A_ite (fun _ => ?_) (fun _ => ?_)
  ·
    exact A_some h_M
  ·
    refine A_chk (fun hchk => ?_)
    refine A_ltM (fr_up (w119 _) h_M) (fun M_11 h_M_11 => ?_)
    exact A_some h_M_11
theorem fz_M_later {P : Nat → Nat → Prop} {M0 M : Mem} {by_ : Int} (w81_58 : ¬ P 81 58) (h_M : fr P M0 M) : A (fun r => fr P M0 r.2) (M_later by_ M) := by
  unfold M_later
  refine A_bT (fun x => ?_)
  try dsimp only
  refine A_ite (fun _ => ?_) (fun _ => ?_)
  ·
    exact A_some h_M
  ·
    refine A_ltM (fr_up w81_58 h_M) (fun M_2 h_M_2 => ?_)
    exact A_some h_M_2
theorem fz_M_canBe {P : Nat → Nat → Prop} {M0 M : Mem} {n_ : Int} {w : Int} (w115 : ∀ k, ¬ P 115 k) (h_M : fr P M0 M) : A (fun r => fr P M0 r.2) (M_canBe n_ w M) := by
  unfold M_canBe
  refine A_chk (fun hchk => ?_)
  refine A_bind (fz_M_canSay w115 h_M) ?_
  rintro ⟨r_3, M_4⟩ h_M_4
  try dsimp only at h_M_4
  try dsimp only
  refine A_chk (fun hchk => ?_)
  exact A_some h_M_4
theorem fz_M_findLeft_b25 {P : Nat → Nat → Prop} {M0 : Mem} {k : Int} {l2_2 : Int} (w115 : ∀ k, ¬ P 115 k) : ∀ x, (fun r => fr P M0 r.2.2) x → A (sK (fun r => fr P M0 r.2.2) (fun r => fr P M0 r.2)) (M_findLeft_b25 k l2_2 x) := by
  rintro ⟨l3_15, l4_16, M_17⟩ h_M_17
  try dsimp only at h_M_17
  unfold M_findLeft_b25
  try dsimp only
  refine A_ite (fun _ => ?_) (fun _ => ?_)
  ·
    refine A_bT (fun x => ?_)
    try dsimp only
    refine A_bind (J := (fun r => fr P M0 r.2)) ?_ ?_
    ·
      refine A_jn (J := fr P M0) (fun M_32 h_M_32 => ?_) (fun j_33 hj_33 => ?_)
      ·
        exact A_some h_M_32
      refine A_ite (fun _ => ?_) (fun _ => ?_)
      ·
        refine A_bind (fz_M_canBe w115 h_M_17) ?_
        rintro ⟨r_36, M_37⟩ h_M_37
        try dsimp only at h_M_37
        try dsimp only
        refine A_ite (fun _ => ?_) (fun _ => ?_)
        ·
          exact hj_33 _ h_M_37
        ·
          exact A_some h_M_37
      ·
        exact hj_33 _ h_M_17
    rintro ⟨v_27, M_28⟩ h_M_28
    try dsimp only at h_M_28
    try dsimp only
    refine A_lt (fun l4_40 => ?_)
    exact A_some h_M_28
  ·
    exact A_some h_M_17
theorem fz_M_findLeft_b7 {P : Nat → Nat → Prop} {M0 : Mem} {k : Int} (w115 : ∀ k, ¬ P 115 k) (w122 : ∀ k, ¬ P 122 k) (w81_60 : ¬ P 81 60) : ∀ x, (fun r => fr P M0 r.2) x → A (sK (fun r => fr P M0 r.2) (fr P M0)) (M_findLeft_b7 k x) := by
  rintro ⟨l2_2, M_3⟩ h_M_3
  try dsimp only at h_M_3
  unfold M_findLeft_b7
  try dsimp only
  refine A_bT (fun x => ?_)
  try dsimp only
  refine A_ite (fun _ => ?_) (fun _ => ?_)
  ·
    refine A_chk (fun hchk => ?_)
    refine A_lt (fun l3_14 => ?_)
    refine A_bind (J := (fun r => fr P M0 r.2)) (A_it (I := (fun r => fr P M0 r.2.2)) (fun x hx => fz_M_findLeft_b25 w115 x hx) h_M_3) ?_
    rintro ⟨l3_24, M_25⟩ h_M_25
    try dsimp only at h_M_25
    try dsimp only
    refine A_chk (fun hchk => ?_)
    refine A_ltM (fr_up (w122 _) h_M_25) (fun M_48 h_M_48 => ?_)
    refine A_bT (fun x => ?_)
    try dsimp only
    refine A_ltM (fr_up w81_60 h_M_48) (fun M_54 h_M_54 => ?_)
    refine A_lt (fun l2_55 => ?_)
    exact A_some h_M_54
  ·
    exact A_some h_M_3
theorem fz_M_findLeft {P : Nat → Nat → Prop} {M0 M : Mem} {k : Int} (w81_60 : ¬ P 81 60) (w115 : ∀ k, ¬ P 115 k) (w122 : ∀ k, ¬ P 122 k) (h_M : fr P M0 M) : A (fr P M0) (M_findLeft k M) := by
  unfold M_findLeft
  refine A_ltM (fr_up w81_60 h_M) (fun M_1 h_M_1 => ?_)
  refine A_bind (J := (fr P M0)) (A_it (I := (fun r => fr P M0 r.2)) (fun x hx => fz_M_findLeft_b7 w115 w122 w81_60 x hx) h_M_1) ?_
  rintro M_10 h_M_10
  try dsimp only at h_M_10
  try dsimp only
  exact A_some h_M_10
theorem fz_M_left {P : Nat → Nat → Prop} {M0 M : Mem} {k : Int} (w81_60 : ¬ P 81 60) (w115 : ∀ k, ¬ P 115 k) (w122 : ∀ k, ¬ P 122 k) (h_M : fr P M0 M) : A (fun r => fr P M0 r.2) (M_left k M) := by
  unfold M_left
  refine A_bind (fz_M_findLeft w81_60 w115 w122 h_M) ?_
  rintro M_1 h_M_1
  try dsimp only at h_M_1
  try dsimp only
  exact A_some h_M_1
theorem fz_M_world_b10 {P : Nat → Nat → Prop} {M0 : Mem} {M_1 : Mem}  (h_M_1 : fr P M0 M_1) : ∀ x, A (sK (fun _ => True) (sK (fun _ => True) (fun r => fr P M0 r.2))) (M_world_b10 M_1 x) := by
  rintro ⟨l3_2, l4_3⟩
  unfold M_world_b10
  try dsimp only
  refine A_bT (fun x => ?_)
  try dsimp only
  refine A_ite (fun _ => ?_) (fun _ => ?_)
  ·
    refine A_chk (fun hchk => ?_)
    refine A_jn (J := fun _ => True) (fun _ _ => ?_) (fun j_14 hj_14 => ?_)
    ·
      refine A_lt (fun l4_20 => ?_)
      exact A_some trivial
    refine A_ite (fun _ => ?_) (fun _ => ?_)
    ·
      exact hj_14 _ trivial
    ·
      refine A_ite (fun _ => ?_) (fun _ => ?_)
      ·
        exact A_some h_M_1
      ·
        refine A_lt (fun l3_17 => ?_)
        exact hj_14 _ trivial
  ·
    exact A_some trivial
theorem fz_M_world {P : Nat → Nat → Prop} {M0 M : Mem} {i : Int} {k : Int} (w81_60 : ¬ P 81 60) (w115 : ∀ k, ¬ P 115 k) (w122 : ∀ k, ¬ P 122 k) (h_M : fr P M0 M) : A (fun r => fr P M0 r.2) (M_world i k M) := by
  unfold M_world
  refine A_bind (fz_M_findLeft w81_60 w115 w122 h_M) ?_
  rintro M_1 h_M_1
  try dsimp only at h_M_1
  try dsimp only
  refine A_bind (J := (sK (fun _ => True) (fun r => fr P M0 r.2))) (A_it (I := fun _ => True) (fun x _ => fz_M_world_b10 h_M_1 x) trivial) ?_
  rintro (x | x) hx
  ·
    exact A_some h_M_1
  · exact A_some hx
theorem fz_M_sure {P : Nat → Nat → Prop} {M0 M : Mem} {r : Int} {k : Int} (w81_60 : ¬ P 81 60) (w115 : ∀ k, ¬ P 115 k) (w122 : ∀ k, ¬ P 122 k) (h_M : fr P M0 M) : A (fun r => fr P M0 r.2) (M_sure r k M) := by
  unfold M_sure
  refine A_bT (fun x => ?_)
  try dsimp only
  refine A_ite (fun _ => ?_) (fun _ => ?_)
  ·
    exact A_some h_M
  ·
    refine A_bind (fz_M_findLeft w81_60 w115 w122 h_M) ?_
    rintro M_2 h_M_2
    try dsimp only at h_M_2
    try dsimp only
    refine A_bT (fun x => ?_)
    try dsimp only
    refine A_ite (fun _ => ?_) (fun _ => ?_)
    ·
      exact A_some h_M_2
    ·
      refine A_ite (fun _ => ?_) (fun _ => ?_)
      ·
        exact A_some h_M_2
      ·
        refine A_ite (fun _ => ?_) (fun _ => ?_)
        ·
          exact A_some h_M_2
        ·
          exact A_some h_M_2
theorem fz_M_proof_b17 {P : Nat → Nat → Prop} {M0 : Mem} {k : Int} (w123 : ∀ k, ¬ P 123 k) : ∀ x, (fun r => fr P M0 r.2.2) x → A (sK (fun r => fr P M0 r.2.2) (fun r => fr P M0 r.2)) (M_proof_b17 k x) := by
  rintro ⟨l3_3, l4_4, M_5⟩ h_M_5
  try dsimp only at h_M_5
  unfold M_proof_b17
  try dsimp only
  refine A_ite (fun _ => ?_) (fun _ => ?_)
  ·
    refine A_bT (fun x => ?_)
    try dsimp only
    refine A_bind (J := (fun r => fr P M0 r.2)) ?_ ?_
    ·
      refine A_ite (fun _ => ?_) (fun _ => ?_)
      ·
        exact A_some h_M_5
      ·
        refine A_chk (fun hchk => ?_)
        refine A_ltM (fr_up (w123 _) h_M_5) (fun M_22 h_M_22 => ?_)
        refine A_lt (fun l3_23 => ?_)
        exact A_some h_M_22
    rintro ⟨l3_15, M_16⟩ h_M_16
    try dsimp only at h_M_16
    try dsimp only
    refine A_lt (fun l4_25 => ?_)
    exact A_some h_M_16
  ·
    exact A_some h_M_5
theorem fz_M_proof_b77 {P : Nat → Nat → Prop} {M0 : Mem} {l4_27 : Int} (w115 : ∀ k, ¬ P 115 k) (w124 : ∀ k, ¬ P 124 k) : ∀ x, (fun r => fr P M0 r.2) x → A (sK (fun r => fr P M0 r.2) (fr P M0)) (M_proof_b77 l4_27 x) := by
  rintro ⟨l5_36, M_37⟩ h_M_37
  try dsimp only at h_M_37
  unfold M_proof_b77
  try dsimp only
  refine A_bT (fun x => ?_)
  try dsimp only
  refine A_ite (fun _ => ?_) (fun _ => ?_)
  ·
    refine A_bT (fun x => ?_)
    try dsimp only
    refine A_chk (fun hchk => ?_)
    refine A_bind (J := (fun r => fr P M0 r.2)) ?_ ?_
    ·
      refine A_jn (J := fr P M0) (fun M_54 h_M_54 => ?_) (fun j_55 hj_55 => ?_)
      ·
        exact A_some h_M_54
      refine A_ite (fun _ => ?_) (fun _ => ?_)
      ·
        refine A_chk (fun hchk => ?_)
        refine A_bind (fz_M_canBe w115 h_M_37) ?_
        rintro ⟨r_60, M_61⟩ h_M_61
        try dsimp only at h_M_61
        try dsimp only
        refine A_ite (fun _ => ?_) (fun _ => ?_)
        ·
          exact A_some h_M_61
        ·
          exact hj_55 _ h_M_61
      ·
        exact hj_55 _ h_M_37
    rintro ⟨v_49, M_50⟩ h_M_50
    try dsimp only at h_M_50
    try dsimp only
    refine A_chk (fun hchk => ?_)
    refine A_chk (fun hchk => ?_)
    refine A_ltM (fr_up (w124 _) h_M_50) (fun M_67 h_M_67 => ?_)
    refine A_lt (fun l5_68 => ?_)
    exact A_some h_M_67
  ·
    exact A_some h_M_37
theorem fz_M_proof_b68 {P : Nat → Nat → Prop} {M0 : Mem} {l3_12 : Int} (w115 : ∀ k, ¬ P 115 k) (w124 : ∀ k, ¬ P 124 k) : ∀ x, (fun r => fr P M0 r.2) x → A (sK (fun r => fr P M0 r.2) (fr P M0)) (M_proof_b68 l3_12 x) := by
  rintro ⟨l4_27, M_28⟩ h_M_28
  try dsimp only at h_M_28
  unfold M_proof_b68
  try dsimp only
  refine A_ite (fun _ => ?_) (fun _ => ?_)
  ·
    refine A_bind (J := (fr P M0)) (A_it (I := (fun r => fr P M0 r.2)) (fun x hx => fz_M_proof_b77 w115 w124 x hx) h_M_28) ?_
    rintro M_44 h_M_44
    try dsimp only at h_M_44
    try dsimp only
    refine A_lt (fun l4_70 => ?_)
    exact A_some h_M_44
  ·
    exact A_some h_M_28
theorem fz_M_proof {P : Nat → Nat → Prop} {M0 M : Mem} {r : Int} {k : Int} (w81_60 : ¬ P 81 60) (w115 : ∀ k, ¬ P 115 k) (w122 : ∀ k, ¬ P 122 k) (w123 : ∀ k, ¬ P 123 k) (w124 : ∀ k, ¬ P 124 k) (h_M : fr P M0 M) : A (fun r => fr P M0 r.2) (M_proof r k M) := by
  unfold M_proof
  refine A_bind (fz_M_sure w81_60 w115 w122 h_M) ?_
  rintro ⟨r_1, M_2⟩ h_M_2
  try dsimp only at h_M_2
  try dsimp only
  refine A_ite (fun _ => ?_) (fun _ => ?_)
  ·
    exact A_some h_M_2
  ·
    refine A_bind (J := (fun r => fr P M0 r.2)) (A_it (I := (fun r => fr P M0 r.2.2)) (fun x hx => fz_M_proof_b17 w123 x hx) h_M_2) ?_
    rintro ⟨l3_12, M_13⟩ h_M_13
    try dsimp only at h_M_13
    try dsimp only
    refine A_ite (fun _ => ?_) (fun _ => ?_)
    ·
      exact A_some h_M_13
    ·
      refine A_bind (J := (fr P M0)) (A_it (I := (fun r => fr P M0 r.2)) (fun x hx => fz_M_proof_b68 w115 w124 x hx) h_M_13) ?_
      rintro M_35 h_M_35
      try dsimp only at h_M_35
      try dsimp only
      refine A_bT (fun x => ?_)
      try dsimp only
      exact A_some h_M_35
theorem fz_M_judge_b13 {P : Nat → Nat → Prop} {M0 : Mem} {w : Int} {k : Int} (w115 : ∀ k, ¬ P 115 k) : ∀ x, (fun r => fr P M0 r.2) x → A (sK (fun r => fr P M0 r.2) (sK (fr P M0) (fun r => fr P M0 r.2))) (M_judge_b13 w k x) := by
  rintro ⟨l3_2, M_3⟩ h_M_3
  try dsimp only at h_M_3
  unfold M_judge_b13
  try dsimp only
  refine A_ite (fun _ => ?_) (fun _ => ?_)
  ·
    refine A_bT (fun x => ?_)
    try dsimp only
    refine A_jn (J := fr P M0) (fun M_12 h_M_12 => ?_) (fun j_13 hj_13 => ?_)
    ·
      refine A_lt (fun l3_20 => ?_)
      exact A_some h_M_12
    refine A_ite (fun _ => ?_) (fun _ => ?_)
    ·
      refine A_bind (fz_M_canBe w115 h_M_3) ?_
      rintro ⟨r_16, M_17⟩ h_M_17
      try dsimp only at h_M_17
      try dsimp only
      refine A_ite (fun _ => ?_) (fun _ => ?_)
      ·
        exact A_some h_M_17
      ·
        exact hj_13 _ h_M_17
    ·
      exact hj_13 _ h_M_3
  ·
    exact A_some h_M_3
theorem fz_M_judge {P : Nat → Nat → Prop} {M0 M : Mem} {w : Int} {k : Int} (w115 : ∀ k, ¬ P 115 k) (h_M : fr P M0 M) : A (fun r => fr P M0 r.2) (M_judge w k M) := by
  unfold M_judge
  refine A_bT (fun x => ?_)
  try dsimp only
  refine A_ite (fun _ => ?_) (fun _ => ?_)
  ·
    exact A_some h_M
  ·
    refine A_bind (J := (sK (fr P M0) (fun r => fr P M0 r.2))) (A_it (I := (fun r => fr P M0 r.2)) (fun x hx => fz_M_judge_b13 w115 x hx) h_M) ?_
    rintro (x | x) hx
    ·
      have h_M_10 : fr P M0 x := hx
      exact A_some h_M_10
    · exact A_some hx
theorem fz_M_next_b58 {P : Nat → Nat → Prop} {M0 : Mem}  (w125 : ∀ k, ¬ P 125 k) : ∀ x, (fun r => fr P M0 r.2) x → A (sK (fun r => fr P M0 r.2) (fr P M0)) (M_next_b58 x) := by
  rintro ⟨l8_35, M_36⟩ h_M_36
  try dsimp only at h_M_36
  unfold M_next_b58
  try dsimp only
  refine A_ite (fun _ => ?_) (fun _ => ?_)
  ·
    refine A_chk (fun hchk => ?_)
    refine A_ltM (fr_up (w125 _) h_M_36) (fun M_46 h_M_46 => ?_)
    refine A_lt (fun l8_47 => ?_)
    exact A_some h_M_46
  ·
    exact A_some h_M_36
theorem fz_M_next_b81 {P : Nat → Nat → Prop} {M0 : Mem} {l6_6 : Int} {l7_22 : Int} (w125 : ∀ k, ¬ P 125 k) : ∀ x, (fun r => fr P M0 r.2) x → A (sK (fun r => fr P M0 r.2) (fr P M0)) (M_next_b81 l6_6 l7_22 x) := by
  rintro ⟨l8_49, M_50⟩ h_M_50
  try dsimp only at h_M_50
  unfold M_next_b81
  try dsimp only
  refine A_bT (fun x => ?_)
  try dsimp only
  refine A_ite (fun _ => ?_) (fun _ => ?_)
  ·
    refine A_chk (fun hchk => ?_)
    refine A_bind (J := (fr P M0)) ?_ ?_
    ·
      refine A_ite (fun _ => ?_) (fun _ => ?_)
      ·
        refine A_bT (fun x => ?_)
        try dsimp only
        refine A_chk (fun hchk => ?_)
        refine A_ltM (fr_up (w125 _) h_M_50) (fun M_68 h_M_68 => ?_)
        exact A_some h_M_68
      ·
        exact A_some h_M_50
    rintro M_61 h_M_61
    try dsimp only at h_M_61
    try dsimp only
    refine A_lt (fun l8_70 => ?_)
    exact A_some h_M_61
  ·
    exact A_some h_M_50
theorem fz_M_next_b46 {P : Nat → Nat → Prop} {M0 : Mem} {l6_6 : Int} (w125 : ∀ k, ¬ P 125 k) : ∀ x, (fun r => fr P M0 r.2.2.2.2) x → A (sK (fun r => fr P M0 r.2.2.2.2) (fun r => fr P M0 r.2.2.2)) (M_next_b46 l6_6 x) := by
  rintro ⟨l3_19, l4_20, l5_21, l7_22, M_23⟩ h_M_23
  try dsimp only at h_M_23
  unfold M_next_b46
  try dsimp only
  refine A_bT (fun x => ?_)
  try dsimp only
  refine A_ite (fun _ => ?_) (fun _ => ?_)
  ·
    refine A_bind (J := (fr P M0)) (A_it (I := (fun r => fr P M0 r.2)) (fun x hx => fz_M_next_b58 w125 x hx) h_M_23) ?_
    rintro M_43 h_M_43
    try dsimp only at h_M_43
    try dsimp only
    refine A_bind (J := (fr P M0)) (A_it (I := (fun r => fr P M0 r.2)) (fun x hx => fz_M_next_b81 w125 x hx) h_M_43) ?_
    rintro M_57 h_M_57
    try dsimp only at h_M_57
    try dsimp only
    refine A_bT (fun x => ?_)
    try dsimp only
    refine A_bT (fun x => ?_)
    try dsimp only
    refine A_bT (fun x => ?_)
    try dsimp only
    refine A_bT (fun x => ?_)
    obtain ⟨l3_95, l4_96, l5_97⟩ := x
    refine A_lt (fun l7_109 => ?_)
    exact A_some h_M_57
  ·
    exact A_some h_M_23
theorem fz_M_next_b27 {P : Nat → Nat → Prop} {M0 : Mem}  (w125 : ∀ k, ¬ P 125 k) : ∀ x, (fun r => fr P M0 r.2.2.2.2) x → A (sK (fun r => fr P M0 r.2.2.2.2) (fun r => fr P M0 r.2.2.2)) (M_next_b27 x) := by
  rintro ⟨l3_3, l4_4, l5_5, l6_6, M_7⟩ h_M_7
  try dsimp only at h_M_7
  unfold M_next_b27
  try dsimp only
  refine A_bT (fun x => ?_)
  try dsimp only
  refine A_ite (fun _ => ?_) (fun _ => ?_)
  ·
    refine A_bind (J := (fun r => fr P M0 r.2.2.2)) (A_it (I := (fun r => fr P M0 r.2.2.2.2)) (fun x hx => fz_M_next_b46 w125 x hx) h_M_7) ?_
    rintro ⟨l3_30, l4_31, l5_32, M_33⟩ h_M_33
    try dsimp only at h_M_33
    try dsimp only
    refine A_lt (fun l6_111 => ?_)
    exact A_some h_M_33
  ·
    exact A_some h_M_7
theorem fz_M_next {P : Nat → Nat → Prop} {M0 M : Mem} {what : Int} {k : Int} (w81_60 : ¬ P 81 60) (w115 : ∀ k, ¬ P 115 k) (w122 : ∀ k, ¬ P 122 k) (w125 : ∀ k, ¬ P 125 k) (h_M : fr P M0 M) : A (fun r => fr P M0 r.2) (M_next what k M) := by
  unfold M_next
  refine A_bT (fun x => ?_)
  try dsimp only
  refine A_ite (fun _ => ?_) (fun _ => ?_)
  ·
    exact A_some h_M
  ·
    refine A_bind (fz_M_findLeft w81_60 w115 w122 h_M) ?_
    rintro M_2 h_M_2
    try dsimp only at h_M_2
    try dsimp only
    refine A_bind (J := (fun r => fr P M0 r.2.2.2)) (A_it (I := (fun r => fr P M0 r.2.2.2.2)) (fun x hx => fz_M_next_b27 w125 x hx) h_M_2) ?_
    rintro ⟨l3_14, l4_15, l5_16, M_17⟩ h_M_17
    try dsimp only at h_M_17
    try dsimp only
    refine A_ite (fun _ => ?_) (fun _ => ?_)
    ·
      exact A_some h_M_17
    ·
      refine A_ite (fun _ => ?_) (fun _ => ?_)
      ·
        exact A_some h_M_17
      ·
        refine A_ite (fun _ => ?_) (fun _ => ?_)
        ·
          exact A_some h_M_17
        ·
          exact A_some h_M_17
theorem fz_M_layHeard_b2 {P : Nat → Nat → Prop} {M0 : Mem}  (w127 : ∀ k, ¬ P 127 k) : ∀ x, (fun r => fr P M0 r.2) x → A (sK (fun r => fr P M0 r.2) (fr P M0)) (M_layHeard_b2 x) := by
  rintro ⟨l2_1, M_2⟩ h_M_2
  try dsimp only at h_M_2
  unfold M_layHeard_b2
  try dsimp only
  refine A_ite (fun _ => ?_) (fun _ => ?_)
  ·
    refine A_chk (fun hchk => ?_)
    refine A_ltM (fr_up (w127 _) h_M_2) (fun M_12 h_M_12 => ?_)
    refine A_lt (fun l2_13 => ?_)
    exact A_some h_M_12
  ·
    exact A_some h_M_2
theorem fz_M_layHeard_b24 {P : Nat → Nat → Prop} {M0 : Mem}  (w128 : ∀ k, ¬ P 128 k) (w126 : ∀ k, ¬ P 126 k) : ∀ x, (fun r => fr P M0 r.2) x → A (sK (fun r => fr P M0 r.2) (fr P M0)) (M_layHeard_b24 x) := by
  rintro ⟨l2_15, M_16⟩ h_M_16
  try dsimp only at h_M_16
  unfold M_layHeard_b24
  try dsimp only
  refine A_ite (fun _ => ?_) (fun _ => ?_)
  ·
    refine A_chk (fun hchk => ?_)
    refine A_ltM (fr_up (w128 _) h_M_16) (fun M_26 h_M_26 => ?_)
    refine A_chk (fun hchk => ?_)
    refine A_ltM (fr_up (w126 _) h_M_26) (fun M_29 h_M_29 => ?_)
    refine A_lt (fun l2_30 => ?_)
    exact A_some h_M_29
  ·
    exact A_some h_M_16
theorem fz_M_layHeard_b137 {P : Nat → Nat → Prop} {M0 : Mem} {l2_32 : Int} {l3_62 : Int} (w127 : ∀ k, ¬ P 127 k) : ∀ x, (fun r => fr P M0 r.2) x → A (sK (fun r => fr P M0 r.2) (fr P M0)) (M_layHeard_b137 l2_32 l3_62 x) := by
  rintro ⟨l4_72, M_73⟩ h_M_73
  try dsimp only at h_M_73
  unfold M_layHeard_b137
  try dsimp only
  refine A_bT (fun x => ?_)
  try dsimp only
  refine A_ite (fun _ => ?_) (fun _ => ?_)
  ·
    refine A_bT (fun x => ?_)
    try dsimp only
    refine A_chk (fun hchk => ?_)
    refine A_ltM (fr_up (w127 _) h_M_73) (fun M_85 h_M_85 => ?_)
    refine A_lt (fun l4_86 => ?_)
    exact A_some h_M_85
  ·
    exact A_some h_M_73
theorem fz_M_layHeard_b126 {P : Nat → Nat → Prop} {M0 : Mem} {l2_32 : Int} (w127 : ∀ k, ¬ P 127 k) : ∀ x, (fun r => fr P M0 r.2) x → A (sK (fun r => fr P M0 r.2) (fr P M0)) (M_layHeard_b126 l2_32 x) := by
  rintro ⟨l3_62, M_63⟩ h_M_63
  try dsimp only at h_M_63
  unfold M_layHeard_b126
  try dsimp only
  refine A_bT (fun x => ?_)
  try dsimp only
  refine A_ite (fun _ => ?_) (fun _ => ?_)
  ·
    refine A_bind (J := (fr P M0)) (A_it (I := (fun r => fr P M0 r.2)) (fun x hx => fz_M_layHeard_b137 w127 x hx) h_M_63) ?_
    rintro M_80 h_M_80
    try dsimp only at h_M_80
    try dsimp only
    refine A_lt (fun l3_88 => ?_)
    exact A_some h_M_80
  ·
    exact A_some h_M_63
theorem fz_M_layHeard_b51 {P : Nat → Nat → Prop} {M0 : Mem} {r : Int} (w126 : ∀ k, ¬ P 126 k) (w128 : ∀ k, ¬ P 128 k) (w127 : ∀ k, ¬ P 127 k) : ∀ x, (fun r => fr P M0 r.2) x → A (sK (fun r => fr P M0 r.2) (fr P M0)) (M_layHeard_b51 r x) := by
  rintro ⟨l2_32, M_33⟩ h_M_33
  try dsimp only at h_M_33
  unfold M_layHeard_b51
  try dsimp only
  refine A_bT (fun x => ?_)
  try dsimp only
  refine A_ite (fun _ => ?_) (fun _ => ?_)
  ·
    refine A_chk (fun hchk => ?_)
    refine A_bind (J := (fr P M0)) ?_ ?_
    ·
      refine A_ite (fun _ => ?_) (fun _ => ?_)
      ·
        exact A_some h_M_33
      ·
        refine A_chk (fun hchk => ?_)
        refine A_ltM (fr_up (w126 _) h_M_33) (fun M_50 h_M_50 => ?_)
        refine A_chk (fun hchk => ?_)
        refine A_bT (fun x => ?_)
        try dsimp only
        refine A_chk (fun hchk => ?_)
        refine A_bT (fun x => ?_)
        try dsimp only
        refine A_ltM (fr_up (w128 _) h_M_50) (fun M_61 h_M_61 => ?_)
        refine A_bind (J := (fr P M0)) (A_it (I := (fun r => fr P M0 r.2)) (fun x hx => fz_M_layHeard_b126 w127 x hx) h_M_61) ?_
        rintro M_70 h_M_70
        try dsimp only at h_M_70
        try dsimp only
        exact A_some h_M_70
    rintro M_44 h_M_44
    try dsimp only at h_M_44
    try dsimp only
    refine A_lt (fun l2_91 => ?_)
    exact A_some h_M_44
  ·
    exact A_some h_M_33
theorem fz_M_layHeard {P : Nat → Nat → Prop} {M0 M : Mem} {r : Int} (w127 : ∀ k, ¬ P 127 k) (w128 : ∀ k, ¬ P 128 k) (w126 : ∀ k, ¬ P 126 k) (h_M : fr P M0 M) : A (fr P M0) (M_layHeard r M) := by
  unfold M_layHeard
  refine A_bind (J := (fr P M0)) (A_it (I := (fun r => fr P M0 r.2)) (fun x hx => fz_M_layHeard_b2 w127 x hx) h_M) ?_
  rintro M_9 h_M_9
  try dsimp only at h_M_9
  try dsimp only
  refine A_bind (J := (fr P M0)) (A_it (I := (fun r => fr P M0 r.2)) (fun x hx => fz_M_layHeard_b24 w128 w126 x hx) h_M_9) ?_
  rintro M_23 h_M_23
  try dsimp only at h_M_23
  try dsimp only
  refine A_bind (J := (fr P M0)) (A_it (I := (fun r => fr P M0 r.2)) (fun x hx => fz_M_layHeard_b51 w126 w128 w127 x hx) h_M_23) ?_
  rintro M_40 h_M_40
  try dsimp only at h_M_40
  try dsimp only
  exact A_some h_M_40
theorem fz_M_take_b3 {P : Nat → Nat → Prop} {M0 : Mem} {level : Int} {asked : Int} {a : Int} (w126 : ∀ k, ¬ P 126 k) : ∀ x, (fun r => fr P M0 r.2) x → A (sK (fun r => fr P M0 r.2) (fr P M0)) (M_take_b3 level asked a x) := by
  rintro ⟨l4_1, M_2⟩ h_M_2
  try dsimp only at h_M_2
  unfold M_take_b3
  try dsimp only
  refine A_ite (fun _ => ?_) (fun _ => ?_)
  ·
    refine A_chk (fun hchk => ?_)
    refine A_chk (fun hchk => ?_)
    refine A_chk (fun hchk => ?_)
    refine A_ltM (fr_up (w126 _) h_M_2) (fun M_16 h_M_16 => ?_)
    refine A_lt (fun l4_17 => ?_)
    exact A_some h_M_16
  ·
    exact A_some h_M_2
theorem fz_M_take {P : Nat → Nat → Prop} {M0 M : Mem} {level : Int} {asked : Int} {a : Int} (w126 : ∀ k, ¬ P 126 k) (h_M : fr P M0 M) : A (fr P M0) (M_take level asked a M) := by
  unfold M_take
  refine A_bind (J := (fr P M0)) (A_it (I := (fun r => fr P M0 r.2)) (fun x hx => fz_M_take_b3 w126 x hx) h_M) ?_
  rintro M_9 h_M_9
  try dsimp only at h_M_9
  try dsimp only
  exact A_some h_M_9
theorem fz_M_byOne_b40 {P : Nat → Nat → Prop} {M0 : Mem} {level : Int} {l2_2 : Int} (w126 : ∀ k, ¬ P 126 k) : ∀ x, (fun r => fr P M0 r.2.2) x → A (sK (fun r => fr P M0 r.2.2) (fun r => fr P M0 r.2)) (M_byOne_b40 level l2_2 x) := by
  rintro ⟨l3_17, l4_18, M_19⟩ h_M_19
  try dsimp only at h_M_19
  unfold M_byOne_b40
  try dsimp only
  refine A_ite (fun _ => ?_) (fun _ => ?_)
  ·
    refine A_bind (fz_M_take w126 h_M_19) ?_
    rintro M_28 h_M_28
    try dsimp only at h_M_28
    try dsimp only
    refine A_bT (fun x => ?_)
    try dsimp only
    refine A_lt (fun l4_30 => ?_)
    exact A_some h_M_28
  ·
    exact A_some h_M_19
theorem fz_M_byOne_b12 {P : Nat → Nat → Prop} {M0 : Mem} {level : Int} (w126 : ∀ k, ¬ P 126 k) : ∀ x, (fun r => fr P M0 r.2) x → A (sK (fun r => fr P M0 r.2) (sK (fr P M0) (fun r => fr P M0 r.2))) (M_byOne_b12 level x) := by
  rintro ⟨l2_2, M_3⟩ h_M_3
  try dsimp only at h_M_3
  unfold M_byOne_b12
  try dsimp only
  refine A_bT (fun x => ?_)
  try dsimp only
  refine A_ite (fun _ => ?_) (fun _ => ?_)
  ·
    refine A_bT (fun x => ?_)
    try dsimp only
    refine A_jn (J := fr P M0) (fun M_13 h_M_13 => ?_) (fun j_14 hj_14 => ?_)
    ·
      refine A_lt (fun l2_39 => ?_)
      exact A_some h_M_13
    refine A_ite (fun _ => ?_) (fun _ => ?_)
    ·
      exact hj_14 _ h_M_3
    ·
      refine A_bind (J := (fun r => fr P M0 r.2)) (A_it (I := (fun r => fr P M0 r.2.2)) (fun x hx => fz_M_byOne_b40 w126 x hx) h_M_3) ?_
      rintro ⟨l3_26, M_27⟩ h_M_27
      try dsimp only at h_M_27
      try dsimp only
      refine A_ite (fun _ => ?_) (fun _ => ?_)
      ·
        exact A_some h_M_27
      ·
        exact hj_14 _ h_M_27
  ·
    exact A_some h_M_3
theorem fz_M_byOne {P : Nat → Nat → Prop} {M0 M : Mem} {level : Int} (w126 : ∀ k, ¬ P 126 k) (h_M : fr P M0 M) : A (fun r => fr P M0 r.2) (M_byOne level M) := by
  unfold M_byOne
  refine A_bT (fun x => ?_)
  try dsimp only
  refine A_ite (fun _ => ?_) (fun _ => ?_)
  ·
    exact A_some h_M
  ·
    refine A_bind (J := (sK (fr P M0) (fun r => fr P M0 r.2))) (A_it (I := (fun r => fr P M0 r.2)) (fun x hx => fz_M_byOne_b12 w126 x hx) h_M) ?_
    rintro (x | x) hx
    ·
      have h_M_10 : fr P M0 x := hx
      exact A_some h_M_10
    · exact A_some hx
theorem fz_M_byTwo_b40 {P : Nat → Nat → Prop} {M0 : Mem} {level : Int} {l2_3 : Int} (w126 : ∀ k, ¬ P 126 k) : ∀ x, (fun r => fr P M0 r.2.2) x → A (sK (fun r => fr P M0 r.2.2) (fun r => fr P M0 r.2)) (M_byTwo_b40 level l2_3 x) := by
  rintro ⟨l3_18, l4_19, M_20⟩ h_M_20
  try dsimp only at h_M_20
  unfold M_byTwo_b40
  try dsimp only
  refine A_ite (fun _ => ?_) (fun _ => ?_)
  ·
    refine A_bind (fz_M_take w126 h_M_20) ?_
    rintro M_29 h_M_29
    try dsimp only at h_M_29
    try dsimp only
    refine A_bind (fz_M_byOne w126 h_M_29) ?_
    rintro ⟨r_30, M_31⟩ h_M_31
    try dsimp only at h_M_31
    try dsimp only
    refine A_lt (fun l4_32 => ?_)
    exact A_some h_M_31
  ·
    exact A_some h_M_20
theorem fz_M_byTwo_b12 {P : Nat → Nat → Prop} {M0 : Mem} {level : Int} (w126 : ∀ k, ¬ P 126 k) : ∀ x, (fun r => fr P M0 r.2) x → A (sK (fun r => fr P M0 r.2) (sK (fr P M0) (fun r => fr P M0 r.2))) (M_byTwo_b12 level x) := by
  rintro ⟨l2_3, M_4⟩ h_M_4
  try dsimp only at h_M_4
  unfold M_byTwo_b12
  try dsimp only
  refine A_bT (fun x => ?_)
  try dsimp only
  refine A_ite (fun _ => ?_) (fun _ => ?_)
  ·
    refine A_bT (fun x => ?_)
    try dsimp only
    refine A_jn (J := fr P M0) (fun M_14 h_M_14 => ?_) (fun j_15 hj_15 => ?_)
    ·
      refine A_lt (fun l2_41 => ?_)
      exact A_some h_M_14
    refine A_ite (fun _ => ?_) (fun _ => ?_)
    ·
      exact hj_15 _ h_M_4
    ·
      refine A_bind (J := (fun r => fr P M0 r.2)) (A_it (I := (fun r => fr P M0 r.2.2)) (fun x hx => fz_M_byTwo_b40 w126 x hx) h_M_4) ?_
      rintro ⟨l3_27, M_28⟩ h_M_28
      try dsimp only at h_M_28
      try dsimp only
      refine A_ite (fun _ => ?_) (fun _ => ?_)
      ·
        exact A_some h_M_28
      ·
        exact hj_15 _ h_M_28
  ·
    exact A_some h_M_4
theorem fz_M_byTwo {P : Nat → Nat → Prop} {M0 M : Mem} {level : Int} (w126 : ∀ k, ¬ P 126 k) (h_M : fr P M0 M) : A (fun r => fr P M0 r.2) (M_byTwo level M) := by
  unfold M_byTwo
  refine A_bind (fz_M_byOne w126 h_M) ?_
  rintro ⟨r_1, M_2⟩ h_M_2
  try dsimp only at h_M_2
  try dsimp only
  refine A_ite (fun _ => ?_) (fun _ => ?_)
  ·
    exact A_some h_M_2
  ·
    refine A_bind (J := (sK (fr P M0) (fun r => fr P M0 r.2))) (A_it (I := (fun r => fr P M0 r.2)) (fun x hx => fz_M_byTwo_b12 w126 x hx) h_M_2) ?_
    rintro (x | x) hx
    ·
      have h_M_11 : fr P M0 x := hx
      exact A_some h_M_11
    · exact A_some hx
theorem fz_M_askings {P : Nat → Nat → Prop} {M0 M : Mem} {r : Int} {k : Int} (w81_60 : ¬ P 81 60) (w115 : ∀ k, ¬ P 115 k) (w122 : ∀ k, ¬ P 122 k) (w127 : ∀ k, ¬ P 127 k) (w128 : ∀ k, ¬ P 128 k) (w126 : ∀ k, ¬ P 126 k) (h_M : fr P M0 M) : A (fun r => fr P M0 r.2) (M_askings r k M) := by
  unfold M_askings
  refine A_bT (fun x => ?_)
  try dsimp only
  refine A_ite (fun _ => ?_) (fun _ => ?_)
  ·
    exact A_some h_M
  ·
    refine A_bind (fz_M_findLeft w81_60 w115 w122 h_M) ?_
    rintro M_2 h_M_2
    try dsimp only at h_M_2
    try dsimp only
    refine A_ite (fun _ => ?_) (fun _ => ?_)
    ·
      exact A_some h_M_2
    ·
      refine A_bind (fz_M_layHeard w127 w128 w126 h_M_2) ?_
      rintro M_3 h_M_3
      try dsimp only at h_M_3
      try dsimp only
      refine A_bT (fun x => ?_)
      try dsimp only
      refine A_ite (fun _ => ?_) (fun _ => ?_)
      ·
        exact A_some h_M_3
      ·
        refine A_bind (fz_M_byOne w126 h_M_3) ?_
        rintro ⟨r_5, M_6⟩ h_M_6
        try dsimp only at h_M_6
        try dsimp only
        refine A_ite (fun _ => ?_) (fun _ => ?_)
        ·
          exact A_some h_M_6
        ·
          refine A_bind (fz_M_byTwo w126 h_M_6) ?_
          rintro ⟨r_7, M_8⟩ h_M_8
          try dsimp only at h_M_8
          try dsimp only
          refine A_ite (fun _ => ?_) (fun _ => ?_)
          ·
            exact A_some h_M_8
          ·
            exact A_some h_M_8
theorem fz_M_truth {P : Nat → Nat → Prop} {M0 M : Mem} {r : Int} {c : Int} {d : Int} {half_ : Int} {k : Int} (w81_60 : ¬ P 81 60) (w115 : ∀ k, ¬ P 115 k) (w122 : ∀ k, ¬ P 122 k) (h_M : fr P M0 M) : A (fun r => fr P M0 r.2) (M_truth r c d half_ k M) := by
  unfold M_truth
  refine A_bT (fun x => ?_)
  try dsimp only
  refine A_bT (fun x => ?_)
  try dsimp only
  refine A_ite (fun _ => ?_) (fun _ => ?_)
  ·
    exact A_some h_M
  ·
    refine A_bind (fz_M_findLeft w81_60 w115 w122 h_M) ?_
    rintro M_10 h_M_10
    try dsimp only at h_M_10
    try dsimp only
    refine A_bT (fun x => ?_)
    try dsimp only
    refine A_lt (fun l6_12 => ?_)
    refine A_bT (fun x => ?_)
    try dsimp only
    refine A_lt (fun l7_14 => ?_)
    refine A_ite (fun _ => ?_) (fun _ => ?_)
    ·
      exact A_some h_M_10
    ·
      refine A_bT (fun x => ?_)
      try dsimp only
      refine A_ite (fun _ => ?_) (fun _ => ?_)
      ·
        refine A_chk (fun hchk => ?_)
        exact A_some h_M_10
      ·
        refine A_chk (fun hchk => ?_)
        exact A_some h_M_10
theorem fz_M_stepPair {P : Nat → Nat → Prop} {M0 M : Mem} {p : Int} (w130 : ∀ k, ¬ P 130 k) (w131 : ∀ k, ¬ P 131 k) (h_M : fr P M0 M) : A (fun r => fr P M0 r.2) (M_stepPair p M) := by
  unfold M_stepPair
  refine A_chk (fun hchk => ?_)
  refine A_lt (fun l2_3 => ?_)
  refine A_bind (J := (fr P M0)) ?_ ?_
  ·
    refine A_ite (fun _ => ?_) (fun _ => ?_)
    ·
      refine A_chk (fun hchk => ?_)
      refine A_ltM (fr_up (w130 _) h_M) (fun M_10 h_M_10 => ?_)
      refine A_chk (fun hchk => ?_)
      refine A_ltM (fr_up (w130 _) h_M_10) (fun M_13 h_M_13 => ?_)
      exact A_some h_M_13
    ·
      exact A_some h_M
  rintro M_4 h_M_4
  try dsimp only at h_M_4
  try dsimp only
  refine A_ite (fun _ => ?_) (fun _ => ?_)
  ·
    refine A_ltM (fr_up (w131 _) h_M_4) (fun M_20 h_M_20 => ?_)
    exact A_some h_M_20
  ·
    refine A_lt (fun l3_21 => ?_)
    refine A_bT (fun x => ?_)
    try dsimp only
    refine A_bT (fun x => ?_)
    try dsimp only
    refine A_bT (fun x => ?_)
    try dsimp only
    refine A_ite (fun _ => ?_) (fun _ => ?_)
    ·
      refine A_ltM (fr_up (w131 _) h_M_4) (fun M_50 h_M_50 => ?_)
      exact A_some h_M_50
    ·
      refine A_ltM (fr_up (w131 _) h_M_4) (fun M_51 h_M_51 => ?_)
      refine A_chk (fun hchk => ?_)
      refine A_ltM (fr_up (w130 _) h_M_51) (fun M_54 h_M_54 => ?_)
      refine A_chk (fun hchk => ?_)
      refine A_ltM (fr_up (w130 _) h_M_54) (fun M_57 h_M_57 => ?_)
      exact A_some h_M_57
theorem fz_M_leaguesOf_b7 {P : Nat → Nat → Prop} {M0 : Mem} {w : Int} {k : Int} (w129 : ∀ k, ¬ P 129 k) (w81_70 : ¬ P 81 70) : ∀ x, (fun r => fr P M0 r.2) x → A (sK (fun r => fr P M0 r.2) (fr P M0)) (M_leaguesOf_b7 w k x) := by
  rintro ⟨l3_2, M_3⟩ h_M_3
  try dsimp only at h_M_3
  unfold M_leaguesOf_b7
  try dsimp only
  refine A_ite (fun _ => ?_) (fun _ => ?_)
  ·
    refine A_bT (fun x => ?_)
    try dsimp only
    refine A_bind (J := (fr P M0)) ?_ ?_
    ·
      refine A_bT (fun x => ?_)
      try dsimp only
      refine A_ite (fun _ => ?_) (fun _ => ?_)
      ·
        refine A_chk (fun hchk => ?_)
        refine A_bT (fun x => ?_)
        try dsimp only
        refine A_chk (fun hchk => ?_)
        refine A_ite (fun _ => ?_) (fun _ => ?_)
        ·
          exact A_some h_M_3
        ·
          refine A_chk (fun hchk => ?_)
          refine A_ltM (fr_up (w129 _) h_M_3) (fun M_31 h_M_31 => ?_)
          refine A_ltM (fr_up w81_70 h_M_31) (fun M_32 h_M_32 => ?_)
          exact A_some h_M_32
      ·
        exact A_some h_M_3
    rintro M_12 h_M_12
    try dsimp only at h_M_12
    try dsimp only
    refine A_lt (fun l3_34 => ?_)
    exact A_some h_M_12
  ·
    exact A_some h_M_3
theorem fz_M_leaguesOf_b100 {P : Nat → Nat → Prop} {M0 : Mem}  (w130 : ∀ k, ¬ P 130 k) (w131 : ∀ k, ¬ P 131 k) : ∀ x, (fun r => fr P M0 r.2) x → A (sK (fun r => fr P M0 r.2) (fr P M0)) (M_leaguesOf_b100 x) := by
  rintro ⟨l3_36, M_37⟩ h_M_37
  try dsimp only at h_M_37
  unfold M_leaguesOf_b100
  try dsimp only
  refine A_ite (fun _ => ?_) (fun _ => ?_)
  ·
    refine A_chk (fun hchk => ?_)
    refine A_ltM (fr_up (w130 _) h_M_37) (fun M_47 h_M_47 => ?_)
    refine A_chk (fun hchk => ?_)
    refine A_ltM (fr_up (w131 _) h_M_47) (fun M_50 h_M_50 => ?_)
    refine A_lt (fun l3_51 => ?_)
    exact A_some h_M_50
  ·
    exact A_some h_M_37
theorem fz_M_leaguesOf_b142 {P : Nat → Nat → Prop} {M0 : Mem}  (w130 : ∀ k, ¬ P 130 k) (w131 : ∀ k, ¬ P 131 k) : ∀ x, (fun r => fr P M0 r.2.2) x → A (sK (fun r => fr P M0 r.2.2) (fun r => fr P M0 r.2)) (M_leaguesOf_b142 x) := by
  rintro ⟨l3_59, l4_60, M_61⟩ h_M_61
  try dsimp only at h_M_61
  unfold M_leaguesOf_b142
  try dsimp only
  refine A_ite (fun _ => ?_) (fun _ => ?_)
  ·
    refine A_bT (fun x => ?_)
    try dsimp only
    refine A_ite (fun _ => ?_) (fun _ => ?_)
    ·
      refine A_bT (fun x => ?_)
      try dsimp only
      refine A_bT (fun x => ?_)
      try dsimp only
      refine A_lt (fun l4_84 => ?_)
      exact A_some h_M_61
    ·
      refine A_bind (fz_M_stepPair w130 w131 h_M_61) ?_
      rintro ⟨r_85, M_86⟩ h_M_86
      try dsimp only at h_M_86
      try dsimp only
      refine A_bT (fun x => ?_)
      try dsimp only
      exact A_some h_M_86
  ·
    exact A_some h_M_61
theorem fz_M_leaguesOf {P : Nat → Nat → Prop} {M0 M : Mem} {w : Int} {k : Int} (w81_70 : ¬ P 81 70) (w129 : ∀ k, ¬ P 129 k) (w130 : ∀ k, ¬ P 130 k) (w131 : ∀ k, ¬ P 131 k) (h_M : fr P M0 M) : A (fun r => fr P M0 r.2) (M_leaguesOf w k M) := by
  unfold M_leaguesOf
  refine A_ltM (fr_up w81_70 h_M) (fun M_1 h_M_1 => ?_)
  refine A_bind (J := (fr P M0)) (A_it (I := (fun r => fr P M0 r.2)) (fun x hx => fz_M_leaguesOf_b7 w129 w81_70 x hx) h_M_1) ?_
  rintro M_10 h_M_10
  try dsimp only at h_M_10
  try dsimp only
  refine A_bind (J := (fr P M0)) (A_it (I := (fun r => fr P M0 r.2)) (fun x hx => fz_M_leaguesOf_b100 w130 w131 x hx) h_M_10) ?_
  rintro M_44 h_M_44
  try dsimp only at h_M_44
  try dsimp only
  refine A_bT (fun x => ?_)
  try dsimp only
  refine A_bT (fun x => ?_)
  try dsimp only
  refine A_bind (J := (fun r => fr P M0 r.2)) (A_it (I := (fun r => fr P M0 r.2.2)) (fun x hx => fz_M_leaguesOf_b142 w130 w131 x hx) h_M_44) ?_
  rintro ⟨l3_68, M_69⟩ h_M_69
  try dsimp only at h_M_69
  try dsimp only
  exact A_some h_M_69
theorem fz_M_leagues {P : Nat → Nat → Prop} {M0 M : Mem} {w : Int} {k : Int} (w81_70 : ¬ P 81 70) (w129 : ∀ k, ¬ P 129 k) (w130 : ∀ k, ¬ P 130 k) (w131 : ∀ k, ¬ P 131 k) (h_M : fr P M0 M) : A (fun r => fr P M0 r.2) (M_leagues w k M) := by
  unfold M_leagues
  refine A_bT (fun x => ?_)
  try dsimp only
  refine A_ite (fun _ => ?_) (fun _ => ?_)
  ·
    refine A_bind (fz_M_leaguesOf w81_70 w129 w130 w131 h_M) ?_
    rintro ⟨r_2, M_3⟩ h_M_3
    try dsimp only at h_M_3
    try dsimp only
    exact A_some h_M_3
  ·
    exact A_some h_M
theorem fz_M_plain_b12 {P : Nat → Nat → Prop} {M0 : Mem} {k : Int} (w81_70 : ¬ P 81 70) (w129 : ∀ k, ¬ P 129 k) (w130 : ∀ k, ¬ P 130 k) (w131 : ∀ k, ¬ P 131 k) : ∀ x, (fun r => fr P M0 r.2.2.2) x → A (sK (fun r => fr P M0 r.2.2.2) (fun r => fr P M0 r.2)) (M_plain_b12 k x) := by
  rintro ⟨l2_2, l3_3, l4_4, M_5⟩ h_M_5
  try dsimp only at h_M_5
  unfold M_plain_b12
  try dsimp only
  refine A_bT (fun x => ?_)
  try dsimp only
  refine A_ite (fun _ => ?_) (fun _ => ?_)
  ·
    refine A_chk (fun hchk => ?_)
    refine A_bind (J := (fun r => fr P M0 r.2)) ?_ ?_
    ·
      refine A_ite (fun _ => ?_) (fun _ => ?_)
      ·
        refine A_bind (fz_M_leaguesOf w81_70 w129 w130 w131 h_M_5) ?_
        rintro ⟨r_22, M_23⟩ h_M_23
        try dsimp only at h_M_23
        try dsimp only
        exact A_some h_M_23
      ·
        exact A_some h_M_5
    rintro ⟨v_17, M_18⟩ h_M_18
    try dsimp only at h_M_18
    try dsimp only
    refine A_bT (fun x => ?_)
    obtain ⟨l2_25, l3_26⟩ := x
    refine A_lt (fun l4_37 => ?_)
    exact A_some h_M_18
  ·
    exact A_some h_M_5
theorem fz_M_plain {P : Nat → Nat → Prop} {M0 M : Mem} {k : Int} (w81_60 : ¬ P 81 60) (w115 : ∀ k, ¬ P 115 k) (w122 : ∀ k, ¬ P 122 k) (w81_70 : ¬ P 81 70) (w129 : ∀ k, ¬ P 129 k) (w130 : ∀ k, ¬ P 130 k) (w131 : ∀ k, ¬ P 131 k) (h_M : fr P M0 M) : A (fun r => fr P M0 r.2) (M_plain k M) := by
  unfold M_plain
  refine A_bind (fz_M_findLeft w81_60 w115 w122 h_M) ?_
  rintro M_1 h_M_1
  try dsimp only at h_M_1
  try dsimp only
  refine A_bind (J := (fun r => fr P M0 r.2)) (A_it (I := (fun r => fr P M0 r.2.2.2)) (fun x hx => fz_M_plain_b12 w81_70 w129 w130 w131 x hx) h_M_1) ?_
  rintro ⟨l2_12, M_13⟩ h_M_13
  try dsimp only at h_M_13
  try dsimp only
  exact A_some h_M_13
theorem fz_M_image_b23 {P : Nat → Nat → Prop} {M0 : Mem} {box : Int} (w133 : ∀ k, ¬ P 133 k) (w134 : ∀ k, ¬ P 134 k) (w135 : ∀ k, ¬ P 135 k) (w136 : ∀ k, ¬ P 136 k) (w137 : ∀ k, ¬ P 137 k) (w138 : ∀ k, ¬ P 138 k) : ∀ x, (fun r => fr P M0 r.2) x → A (sK (fun r => fr P M0 r.2) (fr P M0)) (M_image_b23 box x) := by
  rintro ⟨l2_5, M_6⟩ h_M_6
  try dsimp only at h_M_6
  unfold M_image_b23
  try dsimp only
  refine A_ite (fun _ => ?_) (fun _ => ?_)
  ·
    refine A_lt (fun l3_14 => ?_)
    refine A_chk (fun hchk => ?_)
    refine A_chk (fun hchk => ?_)
    refine A_ltM (fr_up (w133 _) h_M_6) (fun M_19 h_M_19 => ?_)
    refine A_ltM (fr_up (w134 _) h_M_19) (fun M_20 h_M_20 => ?_)
    refine A_ltM (fr_up (w135 _) h_M_20) (fun M_21 h_M_21 => ?_)
    refine A_ltM (fr_up (w136 _) h_M_21) (fun M_22 h_M_22 => ?_)
    refine A_chk (fun hchk => ?_)
    refine A_ltM (fr_up (w137 _) h_M_22) (fun M_24 h_M_24 => ?_)
    refine A_chk (fun hchk => ?_)
    refine A_ltM (fr_up (w138 _) h_M_24) (fun M_26 h_M_26 => ?_)
    refine A_lt (fun l2_27 => ?_)
    exact A_some h_M_26
  ·
    exact A_some h_M_6
theorem fz_M_image {P : Nat → Nat → Prop} {M0 M : Mem} {box : Int} (w132 : ∀ k, ¬ P 132 k) (w133 : ∀ k, ¬ P 133 k) (w134 : ∀ k, ¬ P 134 k) (w135 : ∀ k, ¬ P 135 k) (w136 : ∀ k, ¬ P 136 k) (w137 : ∀ k, ¬ P 137 k) (w138 : ∀ k, ¬ P 138 k) (h_M : fr P M0 M) : A (fun r => fr P M0 r.2) (M_image box M) := by
  unfold M_image
  refine A_bT (fun x => ?_)
  try dsimp only
  refine A_ite (fun _ => ?_) (fun _ => ?_)
  ·
    exact A_some h_M
  ·
    refine A_chk (fun hchk => ?_)
    refine A_ltM (fr_up (w132 _) h_M) (fun M_4 h_M_4 => ?_)
    refine A_bind (J := (fr P M0)) (A_it (I := (fun r => fr P M0 r.2)) (fun x hx => fz_M_image_b23 w133 w134 w135 w136 w137 w138 x hx) h_M_4) ?_
    rintro M_13 h_M_13
    try dsimp only at h_M_13
    try dsimp only
    exact A_some h_M_13
theorem fz_M_back_b32 {P : Nat → Nat → Prop} {M0 : Mem} {box : Int} (w116 : ∀ k, ¬ P 116 k) (w117 : ∀ k, ¬ P 117 k) (w118 : ∀ k, ¬ P 118 k) (w119 : ∀ k, ¬ P 119 k) (w120 : ∀ k, ¬ P 120 k) (w121 : ∀ k, ¬ P 121 k) : ∀ x, (fun r => fr P M0 r.2) x → A (sK (fun r => fr P M0 r.2) (fr P M0)) (M_back_b32 box x) := by
  rintro ⟨l2_12, M_13⟩ h_M_13
  try dsimp only at h_M_13
  unfold M_back_b32
  try dsimp only
  refine A_ite (fun _ => ?_) (fun _ => ?_)
  ·
    refine A_lt (fun l3_21 => ?_)
    refine A_chk (fun hchk => ?_)
    refine A_chk (fun hchk => ?_)
    refine A_ltM (fr_up (w116 _) h_M_13) (fun M_26 h_M_26 => ?_)
    refine A_ltM (fr_up (w117 _) h_M_26) (fun M_27 h_M_27 => ?_)
    refine A_ltM (fr_up (w118 _) h_M_27) (fun M_28 h_M_28 => ?_)
    refine A_ltM (fr_up (w119 _) h_M_28) (fun M_29 h_M_29 => ?_)
    refine A_chk (fun hchk => ?_)
    refine A_ltM (fr_up (w120 _) h_M_29) (fun M_31 h_M_31 => ?_)
    refine A_chk (fun hchk => ?_)
    refine A_ltM (fr_up (w121 _) h_M_31) (fun M_33 h_M_33 => ?_)
    refine A_lt (fun l2_34 => ?_)
    exact A_some h_M_33
  ·
    exact A_some h_M_13
theorem fz_M_back {P : Nat → Nat → Prop} {M0 M : Mem} {box : Int} (w81_57 : ¬ P 81 57) (w116 : ∀ k, ¬ P 116 k) (w117 : ∀ k, ¬ P 117 k) (w118 : ∀ k, ¬ P 118 k) (w119 : ∀ k, ¬ P 119 k) (w120 : ∀ k, ¬ P 120 k) (w121 : ∀ k, ¬ P 121 k) (h_M : fr P M0 M) : A (fun r => fr P M0 r.2) (M_back box M) := by
  unfold M_back
  refine A_bT (fun x => ?_)
  try dsimp only
  refine A_bT (fun x => ?_)
  try dsimp only
  refine A_ite (fun _ => ?_) (fun _ => ?_)
  ·
    exact A_some h_M
  ·
    refine A_chk (fun hchk => ?_)
    refine A_ltM (fr_up w81_57 h_M) (fun M_11 h_M_11 => ?_)
    refine A_bind (J := (fr P M0)) (A_it (I := (fun r => fr P M0 r.2)) (fun x hx => fz_M_back_b32 w116 w117 w118 w119 w120 w121 x hx) h_M_11) ?_
    rintro M_20 h_M_20
    try dsimp only at h_M_20
    try dsimp only
    exact A_some h_M_20
theorem fz_M_feed_b18 {P : Nat → Nat → Prop} {M0 : Mem} {a : Int} {b : Int} {c : Int} {d : Int} {e : Int} (w82 : ∀ k, ¬ P 82 k) : ∀ x, (fun r => fr P M0 r.2) x → A (sK (fun r => fr P M0 r.2) (fr P M0)) (M_feed_b18 a b c d e x) := by
  rintro ⟨l6_1, M_2⟩ h_M_2
  try dsimp only at h_M_2
  unfold M_feed_b18
  try dsimp only
  refine A_ite (fun _ => ?_) (fun _ => ?_)
  ·
    refine A_bT (fun x => ?_)
    try dsimp only
    refine A_chk (fun hchk => ?_)
    refine A_chk (fun hchk => ?_)
    refine A_ltM (fr_up (w82 _) h_M_2) (fun M_22 h_M_22 => ?_)
    refine A_lt (fun l6_23 => ?_)
    exact A_some h_M_22
  ·
    exact A_some h_M_2
theorem fz_M_feed {P : Nat → Nat → Prop} {M0 M : Mem} {a : Int} {b : Int} {c : Int} {d : Int} {e : Int} (w82 : ∀ k, ¬ P 82 k) (w81_2 : ¬ P 81 2) (h_M : fr P M0 M) : A (fun r => fr P M0 r.2) (M_feed a b c d e M) := by
  unfold M_feed
  refine A_ite (fun _ => ?_) (fun _ => ?_)
  ·
    exact A_some h_M
  ·
    refine A_bind (J := (fr P M0)) (A_it (I := (fun r => fr P M0 r.2)) (fun x hx => fz_M_feed_b18 w82 x hx) h_M) ?_
    rintro M_9 h_M_9
    try dsimp only at h_M_9
    try dsimp only
    refine A_ltM (fr_up w81_2 h_M_9) (fun M_25 h_M_25 => ?_)
    exact A_some h_M_25
theorem fz_M_end {P : Nat → Nat → Prop} {M0 M : Mem} {n_ : Int} (w81_2 : ¬ P 81 2) (h_M : fr P M0 M) : A (fun r => fr P M0 r.2) (M_end n_ M) := by
  unfold M_end
  refine A_ite (fun _ => ?_) (fun _ => ?_)
  ·
    exact A_some h_M
  ·
    refine A_ltM (fr_up w81_2 h_M) (fun M_1 h_M_1 => ?_)
    exact A_some h_M_1
theorem fz_T_init3 {P : Nat → Nat → Prop} {M0 M : Mem}  (w3_8 : ¬ P 3 8) (w3_9 : ¬ P 3 9) (w3_10 : ¬ P 3 10) (w3_11 : ¬ P 3 11) (w3_12 : ¬ P 3 12) (w3_13 : ¬ P 3 13) (w3_14 : ¬ P 3 14) (w3_15 : ¬ P 3 15) (w3_16 : ¬ P 3 16) (w3_17 : ¬ P 3 17) (w3_18 : ¬ P 3 18) (w3_0 : ¬ P 3 0) (w3_1 : ¬ P 3 1) (w3_2 : ¬ P 3 2) (w3_3 : ¬ P 3 3) (w3_4 : ¬ P 3 4) (w3_5 : ¬ P 3 5) (w6 : ∀ k, ¬ P 6 k) (w10 : ∀ k, ¬ P 10 k) (h_M : fr P M0 M) : A (fr P M0) (T_init3 M) := by
  unfold T_init3
  refine A_ltM (fr_up w3_8 h_M) (fun M_1 h_M_1 => ?_)
  refine A_ltM (fr_up w3_9 h_M_1) (fun M_2 h_M_2 => ?_)
  refine A_ltM (fr_up w3_10 h_M_2) (fun M_3 h_M_3 => ?_)
  refine A_ltM (fr_up w3_11 h_M_3) (fun M_4 h_M_4 => ?_)
  refine A_ltM (fr_up w3_12 h_M_4) (fun M_5 h_M_5 => ?_)
  refine A_ltM (fr_up w3_13 h_M_5) (fun M_6 h_M_6 => ?_)
  refine A_ltM (fr_up w3_14 h_M_6) (fun M_7 h_M_7 => ?_)
  refine A_ltM (fr_up w3_15 h_M_7) (fun M_8 h_M_8 => ?_)
  refine A_ltM (fr_up w3_16 h_M_8) (fun M_9 h_M_9 => ?_)
  refine A_ltM (fr_up w3_17 h_M_9) (fun M_10 h_M_10 => ?_)
  refine A_ltM (fr_up w3_18 h_M_10) (fun M_11 h_M_11 => ?_)
  refine A_bind (fz_T_clear w3_0 w3_1 w3_2 w3_3 w3_4 w3_5 w6 w10 h_M_11) ?_
  rintro M_12 h_M_12
  try dsimp only at h_M_12
  try dsimp only
  exact A_some h_M_12
theorem fz_T_init15 {P : Nat → Nat → Prop} {M0 M : Mem}  (w15_8 : ¬ P 15 8) (w15_9 : ¬ P 15 9) (w15_10 : ¬ P 15 10) (w15_11 : ¬ P 15 11) (w15_12 : ¬ P 15 12) (w15_13 : ¬ P 15 13) (w15_14 : ¬ P 15 14) (w15_15 : ¬ P 15 15) (w15_16 : ¬ P 15 16) (w15_17 : ¬ P 15 17) (w15_18 : ¬ P 15 18) (w15_0 : ¬ P 15 0) (w15_1 : ¬ P 15 1) (w15_2 : ¬ P 15 2) (w15_3 : ¬ P 15 3) (w15_4 : ¬ P 15 4) (w15_5 : ¬ P 15 5) (w18 : ∀ k, ¬ P 18 k) (w22 : ∀ k, ¬ P 22 k) (h_M : fr P M0 M) : A (fr P M0) (T_init15 M) := by
  unfold T_init15
  refine A_ltM (fr_up w15_8 h_M) (fun M_1 h_M_1 => ?_)
  refine A_ltM (fr_up w15_9 h_M_1) (fun M_2 h_M_2 => ?_)
  refine A_ltM (fr_up w15_10 h_M_2) (fun M_3 h_M_3 => ?_)
  refine A_ltM (fr_up w15_11 h_M_3) (fun M_4 h_M_4 => ?_)
  refine A_ltM (fr_up w15_12 h_M_4) (fun M_5 h_M_5 => ?_)
  refine A_ltM (fr_up w15_13 h_M_5) (fun M_6 h_M_6 => ?_)
  refine A_ltM (fr_up w15_14 h_M_6) (fun M_7 h_M_7 => ?_)
  refine A_ltM (fr_up w15_15 h_M_7) (fun M_8 h_M_8 => ?_)
  refine A_ltM (fr_up w15_16 h_M_8) (fun M_9 h_M_9 => ?_)
  refine A_ltM (fr_up w15_17 h_M_9) (fun M_10 h_M_10 => ?_)
  refine A_ltM (fr_up w15_18 h_M_10) (fun M_11 h_M_11 => ?_)
  refine A_bind (fz_T_clear w15_0 w15_1 w15_2 w15_3 w15_4 w15_5 w18 w22 h_M_11) ?_
  rintro M_12 h_M_12
  try dsimp only at h_M_12
  try dsimp only
  exact A_some h_M_12
theorem fz_S_init28 {P : Nat → Nat → Prop} {M0 M : Mem}  (w28_0 : ¬ P 28 0) (w28_2 : ¬ P 28 2) (w28_3 : ¬ P 28 3) (h_M : fr P M0 M) : A (fr P M0) (S_init28 M) := by
  unfold S_init28
  refine A_ltM (fr_up w28_0 h_M) (fun M_1 h_M_1 => ?_)
  refine A_ltM (fr_up w28_2 h_M_1) (fun M_2 h_M_2 => ?_)
  refine A_ltM (fr_up w28_3 h_M_2) (fun M_3 h_M_3 => ?_)
  exact A_some h_M_3
theorem fz_K_init40_b29 {P : Nat → Nat → Prop} {M0 : Mem}  (w41 : ∀ k, ¬ P 41 k) : ∀ x, (fun r => fr P M0 r.2.2.2) x → A (sK (fun r => fr P M0 r.2.2.2) (fr P M0)) (K_init40_b29 x) := by
  rintro ⟨l2_4, l3_5, l5_6, M_7⟩ h_M_7
  try dsimp only at h_M_7
  unfold K_init40_b29
  try dsimp only
  refine A_bT (fun x => ?_)
  try dsimp only
  refine A_ite (fun _ => ?_) (fun _ => ?_)
  ·
    refine A_bT (fun x => ?_)
    try dsimp only
    refine A_bind (J := (fun r => fr P M0 r.2.2)) ?_ ?_
    ·
      refine A_ite (fun _ => ?_) (fun _ => ?_)
      ·
        refine A_chk (fun hchk => ?_)
        refine A_ltM (fr_up (w41 _) h_M_7) (fun M_25 h_M_25 => ?_)
        refine A_lt (fun l2_26 => ?_)
        exact A_some h_M_25
      ·
        refine A_bT (fun x => ?_)
        try dsimp only
        refine A_bT (fun x => ?_)
        try dsimp only
        exact A_some h_M_7
    rintro ⟨l2_17, l3_18, M_19⟩ h_M_19
    try dsimp only at h_M_19
    try dsimp only
    refine A_lt (fun l5_30 => ?_)
    exact A_some h_M_19
  ·
    exact A_some h_M_7
theorem fz_K_init40 {P : Nat → Nat → Prop} {M0 M : Mem}  (w40_0 : ¬ P 40 0) (w40_9 : ¬ P 40 9) (w40_1 : ¬ P 40 1) (w41 : ∀ k, ¬ P 41 k) (h_M : fr P M0 M) : A (fr P M0) (K_init40 M) := by
  unfold K_init40
  refine A_ltM (fr_up w40_0 h_M) (fun M_1 h_M_1 => ?_)
  refine A_ltM (fr_up w40_9 h_M_1) (fun M_2 h_M_2 => ?_)
  refine A_ltM (fr_up w40_1 h_M_2) (fun M_3 h_M_3 => ?_)
  refine A_bind (J := (fr P M0)) (A_it (I := (fun r => fr P M0 r.2.2.2)) (fun x hx => fz_K_init40_b29 w41 x hx) h_M_3) ?_
  rintro M_14 h_M_14
  try dsimp only at h_M_14
  try dsimp only
  exact A_some h_M_14
theorem fz_N_init27 {P : Nat → Nat → Prop} {M0 M : Mem}  (w28_0 : ¬ P 28 0) (w28_2 : ¬ P 28 2) (w28_3 : ¬ P 28 3) (w27_1 : ¬ P 27 1) (w27_2 : ¬ P 27 2) (w27_3 : ¬ P 27 3) (w27_4 : ¬ P 27 4) (w27_5 : ¬ P 27 5) (w27_6 : ¬ P 27 6) (w27_7 : ¬ P 27 7) (w27_8 : ¬ P 27 8) (w27_9 : ¬ P 27 9) (w40_0 : ¬ P 40 0) (w40_9 : ¬ P 40 9) (w40_1 : ¬ P 40 1) (w41 : ∀ k, ¬ P 41 k) (w27_0 : ¬ P 27 0) (h_M : fr P M0 M) : A (fr P M0) (N_init27 M) := by
  unfold N_init27
  refine A_bind (fz_S_init28 w28_0 w28_2 w28_3 h_M) ?_
  rintro M_1 h_M_1
  try dsimp only at h_M_1
  try dsimp only
  refine A_ltM (fr_up w27_1 h_M_1) (fun M_2 h_M_2 => ?_)
  refine A_ltM (fr_up w27_2 h_M_2) (fun M_3 h_M_3 => ?_)
  refine A_ltM (fr_up w27_3 h_M_3) (fun M_4 h_M_4 => ?_)
  refine A_ltM (fr_up w27_4 h_M_4) (fun M_5 h_M_5 => ?_)
  refine A_ltM (fr_up w27_5 h_M_5) (fun M_6 h_M_6 => ?_)
  refine A_ltM (fr_up w27_6 h_M_6) (fun M_7 h_M_7 => ?_)
  refine A_ltM (fr_up w27_7 h_M_7) (fun M_8 h_M_8 => ?_)
  refine A_ltM (fr_up w27_8 h_M_8) (fun M_9 h_M_9 => ?_)
  refine A_ltM (fr_up w27_9 h_M_9) (fun M_10 h_M_10 => ?_)
  refine A_bind (fz_K_init40 w40_0 w40_9 w40_1 w41 h_M_10) ?_
  rintro M_11 h_M_11
  try dsimp only at h_M_11
  try dsimp only
  refine A_ltM (fr_up w27_0 h_M_11) (fun M_12 h_M_12 => ?_)
  exact A_some h_M_12
theorem fz_Y_init42 {P : Nat → Nat → Prop} {M0 M : Mem}  (w42_2 : ¬ P 42 2) (w42_3 : ¬ P 42 3) (w42_4 : ¬ P 42 4) (w42_5 : ¬ P 42 5) (w42_6 : ¬ P 42 6) (w42_7 : ¬ P 42 7) (h_M : fr P M0 M) : A (fr P M0) (Y_init42 M) := by
  unfold Y_init42
  refine A_ltM (fr_up w42_2 h_M) (fun M_1 h_M_1 => ?_)
  refine A_ltM (fr_up w42_3 h_M_1) (fun M_2 h_M_2 => ?_)
  refine A_ltM (fr_up w42_4 h_M_2) (fun M_3 h_M_3 => ?_)
  refine A_ltM (fr_up w42_5 h_M_3) (fun M_4 h_M_4 => ?_)
  refine A_ltM (fr_up w42_6 h_M_4) (fun M_5 h_M_5 => ?_)
  refine A_ltM (fr_up w42_7 h_M_5) (fun M_6 h_M_6 => ?_)
  exact A_some h_M_6
theorem fz_Y_init50 {P : Nat → Nat → Prop} {M0 M : Mem}  (w50_2 : ¬ P 50 2) (w50_3 : ¬ P 50 3) (w50_4 : ¬ P 50 4) (w50_5 : ¬ P 50 5) (w50_6 : ¬ P 50 6) (w50_7 : ¬ P 50 7) (h_M : fr P M0 M) : A (fr P M0) (Y_init50 M) := by
  unfold Y_init50
  refine A_ltM (fr_up w50_2 h_M) (fun M_1 h_M_1 => ?_)
  refine A_ltM (fr_up w50_3 h_M_1) (fun M_2 h_M_2 => ?_)
  refine A_ltM (fr_up w50_4 h_M_2) (fun M_3 h_M_3 => ?_)
  refine A_ltM (fr_up w50_5 h_M_3) (fun M_4 h_M_4 => ?_)
  refine A_ltM (fr_up w50_6 h_M_4) (fun M_5 h_M_5 => ?_)
  refine A_ltM (fr_up w50_7 h_M_5) (fun M_6 h_M_6 => ?_)
  exact A_some h_M_6
theorem fz_Y_init57 {P : Nat → Nat → Prop} {M0 M : Mem}  (w57_2 : ¬ P 57 2) (w57_3 : ¬ P 57 3) (w57_4 : ¬ P 57 4) (w57_5 : ¬ P 57 5) (w57_6 : ¬ P 57 6) (w57_7 : ¬ P 57 7) (h_M : fr P M0 M) : A (fr P M0) (Y_init57 M) := by
  unfold Y_init57
  refine A_ltM (fr_up w57_2 h_M) (fun M_1 h_M_1 => ?_)
  refine A_ltM (fr_up w57_3 h_M_1) (fun M_2 h_M_2 => ?_)
  refine A_ltM (fr_up w57_4 h_M_2) (fun M_3 h_M_3 => ?_)
  refine A_ltM (fr_up w57_5 h_M_3) (fun M_4 h_M_4 => ?_)
  refine A_ltM (fr_up w57_6 h_M_4) (fun M_5 h_M_5 => ?_)
  refine A_ltM (fr_up w57_7 h_M_5) (fun M_6 h_M_6 => ?_)
  exact A_some h_M_6
theorem fz_Y_init64 {P : Nat → Nat → Prop} {M0 M : Mem}  (w64_2 : ¬ P 64 2) (w64_3 : ¬ P 64 3) (w64_4 : ¬ P 64 4) (w64_5 : ¬ P 64 5) (w64_6 : ¬ P 64 6) (w64_7 : ¬ P 64 7) (h_M : fr P M0 M) : A (fr P M0) (Y_init64 M) := by
  unfold Y_init64
  refine A_ltM (fr_up w64_2 h_M) (fun M_1 h_M_1 => ?_)
  refine A_ltM (fr_up w64_3 h_M_1) (fun M_2 h_M_2 => ?_)
  refine A_ltM (fr_up w64_4 h_M_2) (fun M_3 h_M_3 => ?_)
  refine A_ltM (fr_up w64_5 h_M_3) (fun M_4 h_M_4 => ?_)
  refine A_ltM (fr_up w64_6 h_M_4) (fun M_5 h_M_5 => ?_)
  refine A_ltM (fr_up w64_7 h_M_5) (fun M_6 h_M_6 => ?_)
  exact A_some h_M_6
theorem fz_W_init71 {P : Nat → Nat → Prop} {M0 M : Mem}  (w71_2 : ¬ P 71 2) (w71_4 : ¬ P 71 4) (h_M : fr P M0 M) : A (fr P M0) (W_init71 M) := by
  unfold W_init71
  refine A_ltM (fr_up w71_2 h_M) (fun M_1 h_M_1 => ?_)
  refine A_ltM (fr_up w71_4 h_M_1) (fun M_2 h_M_2 => ?_)
  exact A_some h_M_2
theorem fz_A_init74 {P : Nat → Nat → Prop} {M0 M : Mem}  (w74_5 : ¬ P 74 5) (h_M : fr P M0 M) : A (fr P M0) (A_init74 M) := by
  unfold A_init74
  refine A_ltM (fr_up w74_5 h_M) (fun M_1 h_M_1 => ?_)
  exact A_some h_M_1
theorem fz_P_init76 {P : Nat → Nat → Prop} {M0 M : Mem}  (w76_1 : ¬ P 76 1) (h_M : fr P M0 M) : A (fr P M0) (P_init76 M) := by
  unfold P_init76
  refine A_ltM (fr_up w76_1 h_M) (fun M_1 h_M_1 => ?_)
  exact A_some h_M_1
theorem fz_C_init78 {P : Nat → Nat → Prop} {M0 M : Mem}  (w78_3 : ¬ P 78 3) (h_M : fr P M0 M) : A (fr P M0) (C_init78 M) := by
  unfold C_init78
  refine A_ltM (fr_up w78_3 h_M) (fun M_1 h_M_1 => ?_)
  exact A_some h_M_1
theorem fz_X_init1 {P : Nat → Nat → Prop} {M0 M : Mem}  (w1_0 : ¬ P 1 0) (w3_8 : ¬ P 3 8) (w3_9 : ¬ P 3 9) (w3_10 : ¬ P 3 10) (w3_11 : ¬ P 3 11) (w3_12 : ¬ P 3 12) (w3_13 : ¬ P 3 13) (w3_14 : ¬ P 3 14) (w3_15 : ¬ P 3 15) (w3_16 : ¬ P 3 16) (w3_17 : ¬ P 3 17) (w3_18 : ¬ P 3 18) (w3_0 : ¬ P 3 0) (w3_1 : ¬ P 3 1) (w3_2 : ¬ P 3 2) (w3_3 : ¬ P 3 3) (w3_4 : ¬ P 3 4) (w3_5 : ¬ P 3 5) (w6 : ∀ k, ¬ P 6 k) (w10 : ∀ k, ¬ P 10 k) (w1_2 : ¬ P 1 2) (w15_8 : ¬ P 15 8) (w15_9 : ¬ P 15 9) (w15_10 : ¬ P 15 10) (w15_11 : ¬ P 15 11) (w15_12 : ¬ P 15 12) (w15_13 : ¬ P 15 13) (w15_14 : ¬ P 15 14) (w15_15 : ¬ P 15 15) (w15_16 : ¬ P 15 16) (w15_17 : ¬ P 15 17) (w15_18 : ¬ P 15 18) (w15_0 : ¬ P 15 0) (w15_1 : ¬ P 15 1) (w15_2 : ¬ P 15 2) (w15_3 : ¬ P 15 3) (w15_4 : ¬ P 15 4) (w15_5 : ¬ P 15 5) (w18 : ∀ k, ¬ P 18 k) (w22 : ∀ k, ¬ P 22 k) (w1_3 : ¬ P 1 3) (w28_0 : ¬ P 28 0) (w28_2 : ¬ P 28 2) (w28_3 : ¬ P 28 3) (w27_1 : ¬ P 27 1) (w27_2 : ¬ P 27 2) (w27_3 : ¬ P 27 3) (w27_4 : ¬ P 27 4) (w27_5 : ¬ P 27 5) (w27_6 : ¬ P 27 6) (w27_7 : ¬ P 27 7) (w27_8 : ¬ P 27 8) (w27_9 : ¬ P 27 9) (w40_0 : ¬ P 40 0) (w40_9 : ¬ P 40 9) (w40_1 : ¬ P 40 1) (w41 : ∀ k, ¬ P 41 k) (w27_0 : ¬ P 27 0) (w1_4 : ¬ P 1 4) (w42_2 : ¬ P 42 2) (w42_3 : ¬ P 42 3) (w42_4 : ¬ P 42 4) (w42_5 : ¬ P 42 5) (w42_6 : ¬ P 42 6) (w42_7 : ¬ P 42 7) (w1_5 : ¬ P 1 5) (w50_2 : ¬ P 50 2) (w50_3 : ¬ P 50 3) (w50_4 : ¬ P 50 4) (w50_5 : ¬ P 50 5) (w50_6 : ¬ P 50 6) (w50_7 : ¬ P 50 7) (w49 : ∀ k, ¬ P 49 k) (w57_2 : ¬ P 57 2) (w57_3 : ¬ P 57 3) (w57_4 : ¬ P 57 4) (w57_5 : ¬ P 57 5) (w57_6 : ¬ P 57 6) (w57_7 : ¬ P 57 7) (w64_2 : ¬ P 64 2) (w64_3 : ¬ P 64 3) (w64_4 : ¬ P 64 4) (w64_5 : ¬ P 64 5) (w64_6 : ¬ P 64 6) (w64_7 : ¬ P 64 7) (w1_6 : ¬ P 1 6) (w71_2 : ¬ P 71 2) (w71_4 : ¬ P 71 4) (w1_7 : ¬ P 1 7) (w74_5 : ¬ P 74 5) (w1_8 : ¬ P 1 8) (w76_1 : ¬ P 76 1) (w1_9 : ¬ P 1 9) (w78_3 : ¬ P 78 3) (w1_10 : ¬ P 1 10) (w1_11 : ¬ P 1 11) (w27_16 : ¬ P 27 16) (wT0_0 : ∀ t, isT t → ¬ P t 0) (wT0_1 : ∀ t, isT t → ¬ P t 1) (wT0_2 : ∀ t, isT t → ¬ P t 2) (wT0_3 : ∀ t, isT t → ¬ P t 3) (wT0_4 : ∀ t, isT t → ¬ P t 4) (wT0_5 : ∀ t, isT t → ¬ P t 5) (wT3 : ∀ t, isT t → ∀ k, ¬ P (t + 3) k) (wT7 : ∀ t, isT t → ∀ k, ¬ P (t + 7) k) (w28_1 : ¬ P 28 1) (w27_10 : ¬ P 27 10) (w27_13 : ¬ P 27 13) (w40_2 : ¬ P 40 2) (w40_3 : ¬ P 40 3) (w40_8 : ¬ P 40 8) (w40_4 : ¬ P 40 4) (w40_5 : ¬ P 40 5) (w40_7 : ¬ P 40 7) (w40_6 : ¬ P 40 6) (w32 : ∀ k, ¬ P 32 k) (w33 : ∀ k, ¬ P 33 k) (wT1 : ∀ t, isT t → ∀ k, ¬ P (t + 1) k) (wT2 : ∀ t, isT t → ∀ k, ¬ P (t + 2) k) (w27_14 : ¬ P 27 14) (w27_15 : ¬ P 27 15) (w29 : ∀ k, ¬ P 29 k) (w34 : ∀ k, ¬ P 34 k) (w35 : ∀ k, ¬ P 35 k) (w36 : ∀ k, ¬ P 36 k) (w37 : ∀ k, ¬ P 37 k) (w38 : ∀ k, ¬ P 38 k) (w39 : ∀ k, ¬ P 39 k) (wT4 : ∀ t, isT t → ∀ k, ¬ P (t + 4) k) (wT5 : ∀ t, isT t → ∀ k, ¬ P (t + 5) k) (wT6 : ∀ t, isT t → ∀ k, ¬ P (t + 6) k) (w27_11 : ¬ P 27 11) (w27_12 : ¬ P 27 12) (wT0_6 : ∀ t, isT t → ¬ P t 6) (wT0_7 : ∀ t, isT t → ¬ P t 7) (w31 : ∀ k, ¬ P 31 k) (w30 : ∀ k, ¬ P 30 k) (wT9 : ∀ t, isT t → ∀ k, ¬ P (t + 9) k) (wT8 : ∀ t, isT t → ∀ k, ¬ P (t + 8) k) (wT10 : ∀ t, isT t → ∀ k, ¬ P (t + 10) k) (wT11 : ∀ t, isT t → ∀ k, ¬ P (t + 11) k) (h_M : fr P M0 M) : A (fr P M0) (X_init1 M) := by
  unfold X_init1
  refine A_ltM (fr_up w1_0 h_M) (fun M_1 h_M_1 => ?_)
  refine A_bind (fz_T_init3 w3_8 w3_9 w3_10 w3_11 w3_12 w3_13 w3_14 w3_15 w3_16 w3_17 w3_18 w3_0 w3_1 w3_2 w3_3 w3_4 w3_5 w6 w10 h_M_1) ?_
  rintro M_2 h_M_2
  try dsimp only at h_M_2
  try dsimp only
  refine A_ltM (fr_up w1_2 h_M_2) (fun M_3 h_M_3 => ?_)
  refine A_bind (fz_T_init15 w15_8 w15_9 w15_10 w15_11 w15_12 w15_13 w15_14 w15_15 w15_16 w15_17 w15_18 w15_0 w15_1 w15_2 w15_3 w15_4 w15_5 w18 w22 h_M_3) ?_
  rintro M_4 h_M_4
  try dsimp only at h_M_4
  try dsimp only
  refine A_ltM (fr_up w1_3 h_M_4) (fun M_5 h_M_5 => ?_)
  refine A_bind (fz_N_init27 w28_0 w28_2 w28_3 w27_1 w27_2 w27_3 w27_4 w27_5 w27_6 w27_7 w27_8 w27_9 w40_0 w40_9 w40_1 w41 w27_0 h_M_5) ?_
  rintro M_6 h_M_6
  try dsimp only at h_M_6
  try dsimp only
  refine A_ltM (fr_up w1_4 h_M_6) (fun M_7 h_M_7 => ?_)
  refine A_bind (fz_Y_init42 w42_2 w42_3 w42_4 w42_5 w42_6 w42_7 h_M_7) ?_
  rintro M_8 h_M_8
  try dsimp only at h_M_8
  try dsimp only
  refine A_ltM (fr_up w1_5 h_M_8) (fun M_9 h_M_9 => ?_)
  refine A_bind (fz_Y_init50 w50_2 w50_3 w50_4 w50_5 w50_6 w50_7 h_M_9) ?_
  rintro M_10 h_M_10
  try dsimp only at h_M_10
  try dsimp only
  refine A_ltM (fr_up (w49 _) h_M_10) (fun M_11 h_M_11 => ?_)
  refine A_bind (fz_Y_init57 w57_2 w57_3 w57_4 w57_5 w57_6 w57_7 h_M_11) ?_
  rintro M_12 h_M_12
  try dsimp only at h_M_12
  try dsimp only
  refine A_ltM (fr_up (w49 _) h_M_12) (fun M_13 h_M_13 => ?_)
  refine A_bind (fz_Y_init64 w64_2 w64_3 w64_4 w64_5 w64_6 w64_7 h_M_13) ?_
  rintro M_14 h_M_14
  try dsimp only at h_M_14
  try dsimp only
  refine A_ltM (fr_up (w49 _) h_M_14) (fun M_15 h_M_15 => ?_)
  refine A_ltM (fr_up w1_6 h_M_15) (fun M_16 h_M_16 => ?_)
  refine A_bind (fz_W_init71 w71_2 w71_4 h_M_16) ?_
  rintro M_17 h_M_17
  try dsimp only at h_M_17
  try dsimp only
  refine A_ltM (fr_up w1_7 h_M_17) (fun M_18 h_M_18 => ?_)
  refine A_bind (fz_A_init74 w74_5 h_M_18) ?_
  rintro M_19 h_M_19
  try dsimp only at h_M_19
  try dsimp only
  refine A_ltM (fr_up w1_8 h_M_19) (fun M_20 h_M_20 => ?_)
  refine A_bind (fz_P_init76 w76_1 h_M_20) ?_
  rintro M_21 h_M_21
  try dsimp only at h_M_21
  try dsimp only
  refine A_ltM (fr_up w1_9 h_M_21) (fun M_22 h_M_22 => ?_)
  refine A_bind (fz_C_init78 w78_3 h_M_22) ?_
  rintro M_23 h_M_23
  try dsimp only at h_M_23
  try dsimp only
  refine A_ltM (fr_up w1_10 h_M_23) (fun M_24 h_M_24 => ?_)
  refine A_ltM (fr_up w1_11 h_M_24) (fun M_25 h_M_25 => ?_)
  refine A_T (fun t_27 ht_27 => ?_)
  refine A_bind (fz_N_readInto w27_16 wT0_0 wT0_1 wT0_2 wT0_3 wT0_4 wT0_5 wT3 wT7 w28_1 w27_10 w27_13 w40_2 w40_3 w40_8 w40_9 w40_4 w40_5 w40_7 w40_6 w32 w33 wT1 wT2 w27_14 w27_15 w29 w34 w35 w36 w37 w38 w39 wT4 wT5 wT6 w27_11 w27_12 h_M_25) ?_
  rintro M_29 h_M_29
  try dsimp only at h_M_29
  try dsimp only
  refine A_bind (fz_N_settle wT0_6 wT0_7 w31 w30 wT9 wT8 wT10 wT11 h_M_29) ?_
  rintro M_30 h_M_30
  try dsimp only at h_M_30
  try dsimp only
  exact A_some h_M_30
theorem fz_M_init81_b475 {P : Nat → Nat → Prop} {M0 : Mem}  (w132 : ∀ k, ¬ P 132 k) : ∀ x, (fun r => fr P M0 r.2) x → A (sK (fun r => fr P M0 r.2) (fr P M0)) (M_init81_b475 x) := by
  rintro ⟨l1_61, M_62⟩ h_M_62
  try dsimp only at h_M_62
  unfold M_init81_b475
  try dsimp only
  refine A_ite (fun _ => ?_) (fun _ => ?_)
  ·
    refine A_chk (fun hchk => ?_)
    refine A_ltM (fr_up (w132 _) h_M_62) (fun M_72 h_M_72 => ?_)
    refine A_lt (fun l1_73 => ?_)
    exact A_some h_M_72
  ·
    exact A_some h_M_62
theorem fz_M_init81 {P : Nat → Nat → Prop} {M0 M : Mem}  (w81_0 : ¬ P 81 0) (w81_1 : ¬ P 81 1) (w81_5 : ¬ P 81 5) (w81_11 : ¬ P 81 11) (w81_12 : ¬ P 81 12) (w81_13 : ¬ P 81 13) (w81_14 : ¬ P 81 14) (w81_15 : ¬ P 81 15) (w81_16 : ¬ P 81 16) (w81_17 : ¬ P 81 17) (w81_18 : ¬ P 81 18) (w81_19 : ¬ P 81 19) (w81_20 : ¬ P 81 20) (w81_21 : ¬ P 81 21) (w81_22 : ¬ P 81 22) (w81_23 : ¬ P 81 23) (w81_24 : ¬ P 81 24) (w81_25 : ¬ P 81 25) (w81_26 : ¬ P 81 26) (w81_27 : ¬ P 81 27) (w81_28 : ¬ P 81 28) (w81_29 : ¬ P 81 29) (w81_30 : ¬ P 81 30) (w81_31 : ¬ P 81 31) (w81_32 : ¬ P 81 32) (w81_33 : ¬ P 81 33) (w81_34 : ¬ P 81 34) (w81_35 : ¬ P 81 35) (w81_36 : ¬ P 81 36) (w81_37 : ¬ P 81 37) (w81_46 : ¬ P 81 46) (w81_47 : ¬ P 81 47) (w81_48 : ¬ P 81 48) (w81_49 : ¬ P 81 49) (w81_50 : ¬ P 81 50) (w81_51 : ¬ P 81 51) (w81_52 : ¬ P 81 52) (w81_53 : ¬ P 81 53) (w81_54 : ¬ P 81 54) (w81_55 : ¬ P 81 55) (w81_56 : ¬ P 81 56) (w81_59 : ¬ P 81 59) (w81_61 : ¬ P 81 61) (w81_62 : ¬ P 81 62) (w81_63 : ¬ P 81 63) (w81_64 : ¬ P 81 64) (w81_65 : ¬ P 81 65) (w81_66 : ¬ P 81 66) (w81_67 : ¬ P 81 67) (w81_68 : ¬ P 81 68) (w81_69 : ¬ P 81 69) (w81_71 : ¬ P 81 71) (w81_72 : ¬ P 81 72) (w81_73 : ¬ P 81 73) (w81_74 : ¬ P 81 74) (w81_75 : ¬ P 81 75) (w81_76 : ¬ P 81 76) (w81_77 : ¬ P 81 77) (w84 : ∀ k, ¬ P 84 k) (w85 : ∀ k, ¬ P 85 k) (w86 : ∀ k, ¬ P 86 k) (w87 : ∀ k, ¬ P 87 k) (w88 : ∀ k, ¬ P 88 k) (w89 : ∀ k, ¬ P 89 k) (w90 : ∀ k, ¬ P 90 k) (w91 : ∀ k, ¬ P 91 k) (w81_40 : ¬ P 81 40) (w111 : ∀ k, ¬ P 111 k) (w113 : ∀ k, ¬ P 113 k) (w112 : ∀ k, ¬ P 112 k) (w114 : ∀ k, ¬ P 114 k) (w132 : ∀ k, ¬ P 132 k) (h_M : fr P M0 M) : A (fr P M0) (M_init81 M) := by
  unfold M_init81
  refine A_ltM (fr_up w81_0 h_M) (fun M_1 h_M_1 => ?_)
  refine A_ltM (fr_up w81_1 h_M_1) (fun M_2 h_M_2 => ?_)
  refine A_ltM (fr_up w81_5 h_M_2) (fun M_3 h_M_3 => ?_)
  refine A_ltM (fr_up w81_11 h_M_3) (fun M_4 h_M_4 => ?_)
  refine A_ltM (fr_up w81_12 h_M_4) (fun M_5 h_M_5 => ?_)
  refine A_ltM (fr_up w81_13 h_M_5) (fun M_6 h_M_6 => ?_)
  refine A_ltM (fr_up w81_14 h_M_6) (fun M_7 h_M_7 => ?_)
  refine A_ltM (fr_up w81_15 h_M_7) (fun M_8 h_M_8 => ?_)
  refine A_ltM (fr_up w81_16 h_M_8) (fun M_9 h_M_9 => ?_)
  refine A_ltM (fr_up w81_17 h_M_9) (fun M_10 h_M_10 => ?_)
  refine A_ltM (fr_up w81_18 h_M_10) (fun M_11 h_M_11 => ?_)
  refine A_ltM (fr_up w81_19 h_M_11) (fun M_12 h_M_12 => ?_)
  refine A_ltM (fr_up w81_20 h_M_12) (fun M_13 h_M_13 => ?_)
  refine A_ltM (fr_up w81_21 h_M_13) (fun M_14 h_M_14 => ?_)
  refine A_ltM (fr_up w81_22 h_M_14) (fun M_15 h_M_15 => ?_)
  refine A_ltM (fr_up w81_23 h_M_15) (fun M_16 h_M_16 => ?_)
  refine A_ltM (fr_up w81_24 h_M_16) (fun M_17 h_M_17 => ?_)
  refine A_ltM (fr_up w81_25 h_M_17) (fun M_18 h_M_18 => ?_)
  refine A_ltM (fr_up w81_26 h_M_18) (fun M_19 h_M_19 => ?_)
  refine A_ltM (fr_up w81_27 h_M_19) (fun M_20 h_M_20 => ?_)
  refine A_ltM (fr_up w81_28 h_M_20) (fun M_21 h_M_21 => ?_)
  refine A_ltM (fr_up w81_29 h_M_21) (fun M_22 h_M_22 => ?_)
  refine A_ltM (fr_up w81_30 h_M_22) (fun M_23 h_M_23 => ?_)
  refine A_ltM (fr_up w81_31 h_M_23) (fun M_24 h_M_24 => ?_)
  refine A_ltM (fr_up w81_32 h_M_24) (fun M_25 h_M_25 => ?_)
  refine A_ltM (fr_up w81_33 h_M_25) (fun M_26 h_M_26 => ?_)
  refine A_ltM (fr_up w81_34 h_M_26) (fun M_27 h_M_27 => ?_)
  refine A_ltM (fr_up w81_35 h_M_27) (fun M_28 h_M_28 => ?_)
  refine A_ltM (fr_up w81_36 h_M_28) (fun M_29 h_M_29 => ?_)
  refine A_ltM (fr_up w81_37 h_M_29) (fun M_30 h_M_30 => ?_)
  refine A_ltM (fr_up w81_46 h_M_30) (fun M_31 h_M_31 => ?_)
  refine A_ltM (fr_up w81_47 h_M_31) (fun M_32 h_M_32 => ?_)
  refine A_ltM (fr_up w81_48 h_M_32) (fun M_33 h_M_33 => ?_)
  refine A_ltM (fr_up w81_49 h_M_33) (fun M_34 h_M_34 => ?_)
  refine A_ltM (fr_up w81_50 h_M_34) (fun M_35 h_M_35 => ?_)
  refine A_ltM (fr_up w81_51 h_M_35) (fun M_36 h_M_36 => ?_)
  refine A_ltM (fr_up w81_52 h_M_36) (fun M_37 h_M_37 => ?_)
  refine A_ltM (fr_up w81_53 h_M_37) (fun M_38 h_M_38 => ?_)
  refine A_ltM (fr_up w81_54 h_M_38) (fun M_39 h_M_39 => ?_)
  refine A_ltM (fr_up w81_55 h_M_39) (fun M_40 h_M_40 => ?_)
  refine A_ltM (fr_up w81_56 h_M_40) (fun M_41 h_M_41 => ?_)
  refine A_ltM (fr_up w81_59 h_M_41) (fun M_42 h_M_42 => ?_)
  refine A_ltM (fr_up w81_61 h_M_42) (fun M_43 h_M_43 => ?_)
  refine A_ltM (fr_up w81_62 h_M_43) (fun M_44 h_M_44 => ?_)
  refine A_ltM (fr_up w81_63 h_M_44) (fun M_45 h_M_45 => ?_)
  refine A_ltM (fr_up w81_64 h_M_45) (fun M_46 h_M_46 => ?_)
  refine A_ltM (fr_up w81_65 h_M_46) (fun M_47 h_M_47 => ?_)
  refine A_ltM (fr_up w81_66 h_M_47) (fun M_48 h_M_48 => ?_)
  refine A_ltM (fr_up w81_67 h_M_48) (fun M_49 h_M_49 => ?_)
  refine A_ltM (fr_up w81_68 h_M_49) (fun M_50 h_M_50 => ?_)
  refine A_ltM (fr_up w81_69 h_M_50) (fun M_51 h_M_51 => ?_)
  refine A_ltM (fr_up w81_71 h_M_51) (fun M_52 h_M_52 => ?_)
  refine A_ltM (fr_up w81_72 h_M_52) (fun M_53 h_M_53 => ?_)
  refine A_ltM (fr_up w81_73 h_M_53) (fun M_54 h_M_54 => ?_)
  refine A_ltM (fr_up w81_74 h_M_54) (fun M_55 h_M_55 => ?_)
  refine A_ltM (fr_up w81_75 h_M_55) (fun M_56 h_M_56 => ?_)
  refine A_ltM (fr_up w81_76 h_M_56) (fun M_57 h_M_57 => ?_)
  refine A_ltM (fr_up w81_77 h_M_57) (fun M_58 h_M_58 => ?_)
  refine A_bind (fz_M_clearBank w84 w85 w86 w87 w88 w89 w90 w91 w81_40 h_M_58) ?_
  rintro M_59 h_M_59
  try dsimp only at h_M_59
  try dsimp only
  refine A_bind (fz_M_layWorlds w111 w113 w112 w114 h_M_59) ?_
  rintro M_60 h_M_60
  try dsimp only at h_M_60
  try dsimp only
  refine A_bind (J := (fr P M0)) (A_it (I := (fun r => fr P M0 r.2)) (fun x hx => fz_M_init81_b475 w132 x hx) h_M_60) ?_
  rintro M_69 h_M_69
  try dsimp only at h_M_69
  try dsimp only
  exact A_some h_M_69
