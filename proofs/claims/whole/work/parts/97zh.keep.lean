/-! ===== reading keeps a property that each of its writes keeps (by gen_keep.py) ===== -/
theorem A_ltJ {β : Type} {J : Mem → Prop} {K : β → Prop} {a : Mem} {f : Mem → Option β} (h0 : J a) (h : ∀ x, J x → A K (f x)) : A K (lt1 a f) := h a h0
theorem A_T27 {β : Type} {K : β → Prop} {x : Int} {T0 : Nat} {f : Nat → Option β} (hx : x = (T0 : Int)) (h : A K (f T0)) : A K (chk (isTI x) (lt1 x.toNat f)) := by
  intro b hb
  unfold chk at hb
  split at hb
  · subst hx
    exact h b hb
  · cases hb
theorem fx_K_fail {J : Mem → Prop} {T0 : Nat} {M : Mem} (hT : ∀ M, J M → M 27 16 = (T0 : Int)) {what : Int} (w40_4 : ∀ M v, J M → J (up M 40 4 v)) (w40_8 : ∀ M v, J M → J (up M 40 8 v)) (w40_9 : ∀ M v, J M → J (up M 40 9 v)) (h_M : J M) : A J (K_fail what M) := by
  unfold K_fail
  refine A_ite (fun _ => ?_) (fun _ => ?_)
  ·
    refine A_ltJ (w40_4 _ _ h_M) (fun M_1 h_M_1 => ?_)
    refine A_ltJ (w40_8 _ _ h_M_1) (fun M_2 h_M_2 => ?_)
    refine A_ltJ (w40_9 _ _ h_M_2) (fun M_3 h_M_3 => ?_)
    exact A_some h_M_3
  ·
    exact A_some h_M
theorem fx_K_readWord_b5 {J : Mem → Prop} {T0 : Nat} (hT : ∀ M, J M → M 27 16 = (T0 : Int))  (w40_7 : ∀ M v, J M → J (up M 40 7 v)) (w40_3 : ∀ M v, J M → J (up M 40 3 v)) : ∀ x, J x → A (sK J J) (K_readWord_b5 x) := by
  rintro M_2 h_M_2
  try dsimp only at h_M_2
  unfold K_readWord_b5
  try dsimp only
  refine A_bT (fun x => ?_)
  try dsimp only
  refine A_ite (fun _ => ?_) (fun _ => ?_)
  ·
    refine A_chk (fun hchk => ?_)
    refine A_bT (fun x => ?_)
    try dsimp only
    refine A_ltJ (w40_7 _ _ h_M_2) (fun M_21 h_M_21 => ?_)
    refine A_ltJ (w40_3 _ _ h_M_21) (fun M_22 h_M_22 => ?_)
    exact A_some h_M_22
  ·
    exact A_some h_M_2
theorem fx_K_readWord_b92 {J : Mem → Prop} {T0 : Nat} (hT : ∀ M, J M → M 27 16 = (T0 : Int))  (w40_4 : ∀ M v, J M → J (up M 40 4 v)) : ∀ x, (fun r => J r.2) x → A (sK (fun r => J r.2) J) (K_readWord_b92 x) := by
  rintro ⟨l1_25, M_26⟩ h_M_26
  try dsimp only at h_M_26
  unfold K_readWord_b92
  try dsimp only
  refine A_ite (fun _ => ?_) (fun _ => ?_)
  ·
    refine A_chk (fun hchk => ?_)
    refine A_bind (J := J) ?_ ?_
    ·
      refine A_ite (fun _ => ?_) (fun _ => ?_)
      ·
        refine A_ltJ (w40_4 _ _ h_M_26) (fun M_40 h_M_40 => ?_)
        exact A_some h_M_40
      ·
        exact A_some h_M_26
    rintro M_36 h_M_36
    try dsimp only at h_M_36
    try dsimp only
    refine A_lt (fun l1_42 => ?_)
    exact A_some h_M_36
  ·
    exact A_some h_M_26
theorem fx_K_readWord {J : Mem → Prop} {T0 : Nat} {M : Mem} (hT : ∀ M, J M → M 27 16 = (T0 : Int))  (w40_7 : ∀ M v, J M → J (up M 40 7 v)) (w40_3 : ∀ M v, J M → J (up M 40 3 v)) (w40_4 : ∀ M v, J M → J (up M 40 4 v)) (w40_8 : ∀ M v, J M → J (up M 40 8 v)) (w40_9 : ∀ M v, J M → J (up M 40 9 v)) (h_M : J M) : A J (K_readWord M) := by
  unfold K_readWord
  refine A_ltJ (w40_7 _ _ h_M) (fun M_1 h_M_1 => ?_)
  refine A_bind (J := J) (A_it (I := J) (fun x hx => fx_K_readWord_b5 hT w40_7 w40_3 x hx) h_M_1) ?_
  rintro M_9 h_M_9
  try dsimp only at h_M_9
  try dsimp only
  refine A_ite (fun _ => ?_) (fun _ => ?_)
  ·
    refine A_bind (fx_K_fail hT w40_4 w40_8 w40_9 h_M_9) ?_
    rintro M_23 h_M_23
    try dsimp only at h_M_23
    try dsimp only
    exact A_some h_M_23
  ·
    refine A_ltJ (w40_4 _ _ h_M_9) (fun M_24 h_M_24 => ?_)
    refine A_bind (J := J) (A_it (I := (fun r => J r.2)) (fun x hx => fx_K_readWord_b92 hT w40_4 x hx) h_M_24) ?_
    rintro M_33 h_M_33
    try dsimp only at h_M_33
    try dsimp only
    exact A_some h_M_33
theorem fx_K_readNumber_b5 {J : Mem → Prop} {T0 : Nat} (hT : ∀ M, J M → M 27 16 = (T0 : Int))  (w40_6 : ∀ M v, J M → J (up M 40 6 v)) (w40_3 : ∀ M v, J M → J (up M 40 3 v)) : ∀ x, J x → A (sK J J) (K_readNumber_b5 x) := by
  rintro M_2 h_M_2
  try dsimp only at h_M_2
  unfold K_readNumber_b5
  try dsimp only
  refine A_bT (fun x => ?_)
  try dsimp only
  refine A_ite (fun _ => ?_) (fun _ => ?_)
  ·
    refine A_chk (fun hchk => ?_)
    refine A_ltJ (w40_6 _ _ h_M_2) (fun M_20 h_M_20 => ?_)
    refine A_ltJ (w40_3 _ _ h_M_20) (fun M_21 h_M_21 => ?_)
    exact A_some h_M_21
  ·
    exact A_some h_M_2
theorem fx_K_readNumber {J : Mem → Prop} {T0 : Nat} {M : Mem} (hT : ∀ M, J M → M 27 16 = (T0 : Int))  (w40_6 : ∀ M v, J M → J (up M 40 6 v)) (w40_3 : ∀ M v, J M → J (up M 40 3 v)) (w40_4 : ∀ M v, J M → J (up M 40 4 v)) (w40_8 : ∀ M v, J M → J (up M 40 8 v)) (w40_9 : ∀ M v, J M → J (up M 40 9 v)) (h_M : J M) : A J (K_readNumber M) := by
  unfold K_readNumber
  refine A_ltJ (w40_6 _ _ h_M) (fun M_1 h_M_1 => ?_)
  refine A_bind (J := J) (A_it (I := J) (fun x hx => fx_K_readNumber_b5 hT w40_6 w40_3 x hx) h_M_1) ?_
  rintro M_9 h_M_9
  try dsimp only at h_M_9
  try dsimp only
  refine A_jn (J := J) (fun M_22 h_M_22 => ?_) (fun j_23 hj_23 => ?_)
  ·
    refine A_bind (fx_K_fail hT w40_4 w40_8 w40_9 h_M_22) ?_
    rintro M_36 h_M_36
    try dsimp only at h_M_36
    try dsimp only
    exact A_some h_M_36
  refine A_ite (fun _ => ?_) (fun _ => ?_)
  ·
    refine A_bT (fun x => ?_)
    try dsimp only
    refine A_ite (fun _ => ?_) (fun _ => ?_)
    ·
      exact hj_23 _ h_M_9
    ·
      refine A_ltJ (w40_4 _ _ h_M_9) (fun M_34 h_M_34 => ?_)
      exact A_some h_M_34
  ·
    exact hj_23 _ h_M_9
theorem fx_K_pass_b10 {J : Mem → Prop} {T0 : Nat} (hT : ∀ M, J M → M 27 16 = (T0 : Int))  (w40_3 : ∀ M v, J M → J (up M 40 3 v)) : ∀ x, J x → A (sK J J) (K_pass_b10 x) := by
  rintro M_1 h_M_1
  try dsimp only at h_M_1
  unfold K_pass_b10
  try dsimp only
  refine A_bT (fun x => ?_)
  try dsimp only
  refine A_ite (fun _ => ?_) (fun _ => ?_)
  ·
    refine A_ltJ (w40_3 _ _ h_M_1) (fun M_17 h_M_17 => ?_)
    exact A_some h_M_17
  ·
    exact A_some h_M_1
theorem fx_K_pass {J : Mem → Prop} {T0 : Nat} {M : Mem} (hT : ∀ M, J M → M 27 16 = (T0 : Int))  (w40_3 : ∀ M v, J M → J (up M 40 3 v)) (w40_5 : ∀ M v, J M → J (up M 40 5 v)) (w40_4 : ∀ M v, J M → J (up M 40 4 v)) (w40_7 : ∀ M v, J M → J (up M 40 7 v)) (w40_8 : ∀ M v, J M → J (up M 40 8 v)) (w40_9 : ∀ M v, J M → J (up M 40 9 v)) (w40_6 : ∀ M v, J M → J (up M 40 6 v)) (h_M : J M) : A J (K_pass M) := by
  unfold K_pass
  refine A_ite (fun _ => ?_) (fun _ => ?_)
  ·
    exact A_some h_M
  ·
    refine A_bind (J := J) (A_it (I := J) (fun x hx => fx_K_pass_b10 hT w40_3 x hx) h_M) ?_
    rintro M_8 h_M_8
    try dsimp only at h_M_8
    try dsimp only
    refine A_ltJ (w40_5 _ _ h_M_8) (fun M_18 h_M_18 => ?_)
    refine A_ite (fun _ => ?_) (fun _ => ?_)
    ·
      refine A_ltJ (w40_4 _ _ h_M_18) (fun M_19 h_M_19 => ?_)
      exact A_some h_M_19
    ·
      refine A_chk (fun hchk => ?_)
      refine A_bT (fun x => ?_)
      try dsimp only
      refine A_ite (fun _ => ?_) (fun _ => ?_)
      ·
        refine A_bind (fx_K_readWord hT w40_7 w40_3 w40_4 w40_8 w40_9 h_M_18) ?_
        rintro M_23 h_M_23
        try dsimp only at h_M_23
        try dsimp only
        exact A_some h_M_23
      ·
        refine A_bT (fun x => ?_)
        try dsimp only
        refine A_ite (fun _ => ?_) (fun _ => ?_)
        ·
          refine A_bind (fx_K_readNumber hT w40_6 w40_3 w40_4 w40_8 w40_9 h_M_18) ?_
          rintro M_25 h_M_25
          try dsimp only at h_M_25
          try dsimp only
          exact A_some h_M_25
        ·
          refine A_bT (fun x => ?_)
          try dsimp only
          refine A_ite (fun _ => ?_) (fun _ => ?_)
          ·
            refine A_ltJ (w40_4 _ _ h_M_18) (fun M_27 h_M_27 => ?_)
            refine A_ltJ (w40_3 _ _ h_M_27) (fun M_28 h_M_28 => ?_)
            exact A_some h_M_28
          ·
            refine A_bind (fx_K_fail hT w40_4 w40_8 w40_9 h_M_18) ?_
            rintro M_29 h_M_29
            try dsimp only at h_M_29
            try dsimp only
            exact A_some h_M_29
theorem fx_N_begin {J : Mem → Prop} {T0 : Nat} {M : Mem} (hT : ∀ M, J M → M 27 16 = (T0 : Int)) {room : Int} (w40_3 : ∀ M v, J M → J (up M 40 3 v)) (w40_5 : ∀ M v, J M → J (up M 40 5 v)) (w40_4 : ∀ M v, J M → J (up M 40 4 v)) (w40_7 : ∀ M v, J M → J (up M 40 7 v)) (w40_8 : ∀ M v, J M → J (up M 40 8 v)) (w40_9 : ∀ M v, J M → J (up M 40 9 v)) (w40_6 : ∀ M v, J M → J (up M 40 6 v)) (h_M : J M) : A J (N_begin room M) := by
  unfold N_begin
  refine A_ite (fun _ => ?_) (fun _ => ?_)
  ·
    refine A_bind (fx_K_pass hT w40_3 w40_5 w40_4 w40_7 w40_8 w40_9 w40_6 h_M) ?_
    rintro M_1 h_M_1
    try dsimp only at h_M_1
    try dsimp only
    exact A_some h_M_1
  ·
    refine A_bind (fx_K_fail hT w40_4 w40_8 w40_9 h_M) ?_
    rintro M_2 h_M_2
    try dsimp only at h_M_2
    try dsimp only
    exact A_some h_M_2
theorem fx_N_seesName {J : Mem → Prop} {T0 : Nat} {M : Mem} (hT : ∀ M, J M → M 27 16 = (T0 : Int))  (w40_4 : ∀ M v, J M → J (up M 40 4 v)) (w40_8 : ∀ M v, J M → J (up M 40 8 v)) (w40_9 : ∀ M v, J M → J (up M 40 9 v)) (h_M : J M) : A (fun r => J r.2) (N_seesName M) := by
  unfold N_seesName
  refine A_bind (J := J) ?_ ?_
  ·
    refine A_ite (fun _ => ?_) (fun _ => ?_)
    ·
      refine A_bind (fx_K_fail hT w40_4 w40_8 w40_9 h_M) ?_
      rintro M_5 h_M_5
      try dsimp only at h_M_5
      try dsimp only
      exact A_some h_M_5
    ·
      exact A_some h_M
  rintro M_1 h_M_1
  try dsimp only at h_M_1
  try dsimp only
  refine A_ite (fun _ => ?_) (fun _ => ?_)
  ·
    exact A_some h_M_1
  ·
    exact A_some h_M_1
theorem fx_N_takeName {J : Mem → Prop} {T0 : Nat} {M : Mem} (hT : ∀ M, J M → M 27 16 = (T0 : Int))  (w40_3 : ∀ M v, J M → J (up M 40 3 v)) (w40_5 : ∀ M v, J M → J (up M 40 5 v)) (w40_4 : ∀ M v, J M → J (up M 40 4 v)) (w40_7 : ∀ M v, J M → J (up M 40 7 v)) (w40_8 : ∀ M v, J M → J (up M 40 8 v)) (w40_9 : ∀ M v, J M → J (up M 40 9 v)) (w40_6 : ∀ M v, J M → J (up M 40 6 v)) (h_M : J M) : A (fun r => J r.2) (N_takeName M) := by
  unfold N_takeName
  refine A_lt (fun l1_1 => ?_)
  refine A_bind (fx_K_pass hT w40_3 w40_5 w40_4 w40_7 w40_8 w40_9 w40_6 h_M) ?_
  rintro M_2 h_M_2
  try dsimp only at h_M_2
  try dsimp only
  exact A_some h_M_2
theorem fx_N_readNewOfFactsAndRows {J : Mem → Prop} {T0 : Nat} {M : Mem} (hT : ∀ M, J M → M 27 16 = (T0 : Int))  (w40_4 : ∀ M v, J M → J (up M 40 4 v)) (w40_8 : ∀ M v, J M → J (up M 40 8 v)) (w40_9 : ∀ M v, J M → J (up M 40 9 v)) (w40_3 : ∀ M v, J M → J (up M 40 3 v)) (w40_5 : ∀ M v, J M → J (up M 40 5 v)) (w40_7 : ∀ M v, J M → J (up M 40 7 v)) (w40_6 : ∀ M v, J M → J (up M 40 6 v)) (h_M : J M) : A (fun r => J r.2) (N_readNewOfFactsAndRows M) := by
  unfold N_readNewOfFactsAndRows
  refine A_bind (fx_N_seesName hT w40_4 w40_8 w40_9 h_M) ?_
  rintro ⟨r_1, M_2⟩ h_M_2
  try dsimp only at h_M_2
  try dsimp only
  refine A_bind (J := J) ?_ ?_
  ·
    refine A_ite (fun _ => ?_) (fun _ => ?_)
    ·
      refine A_bT (fun x => ?_)
      try dsimp only
      refine A_bT (fun x => ?_)
      try dsimp only
      refine A_ite (fun _ => ?_) (fun _ => ?_)
      ·
        refine A_bind (fx_K_fail hT w40_4 w40_8 w40_9 h_M_2) ?_
        rintro M_14 h_M_14
        try dsimp only at h_M_14
        try dsimp only
        exact A_some h_M_14
      ·
        exact A_some h_M_2
    ·
      exact A_some h_M_2
  rintro M_3 h_M_3
  try dsimp only at h_M_3
  try dsimp only
  refine A_bind (fx_N_takeName hT w40_3 w40_5 w40_4 w40_7 w40_8 w40_9 w40_6 h_M_3) ?_
  rintro ⟨r_16, M_17⟩ h_M_17
  try dsimp only at h_M_17
  try dsimp only
  exact A_some h_M_17
theorem fx_K_expect {J : Mem → Prop} {T0 : Nat} {M : Mem} (hT : ∀ M, J M → M 27 16 = (T0 : Int)) {wanted : Int} (w40_3 : ∀ M v, J M → J (up M 40 3 v)) (w40_5 : ∀ M v, J M → J (up M 40 5 v)) (w40_4 : ∀ M v, J M → J (up M 40 4 v)) (w40_7 : ∀ M v, J M → J (up M 40 7 v)) (w40_8 : ∀ M v, J M → J (up M 40 8 v)) (w40_9 : ∀ M v, J M → J (up M 40 9 v)) (w40_6 : ∀ M v, J M → J (up M 40 6 v)) (h_M : J M) : A J (K_expect wanted M) := by
  unfold K_expect
  refine A_ite (fun _ => ?_) (fun _ => ?_)
  ·
    refine A_bind (fx_K_pass hT w40_3 w40_5 w40_4 w40_7 w40_8 w40_9 w40_6 h_M) ?_
    rintro M_1 h_M_1
    try dsimp only at h_M_1
    try dsimp only
    exact A_some h_M_1
  ·
    refine A_bind (fx_K_fail hT w40_4 w40_8 w40_9 h_M) ?_
    rintro M_2 h_M_2
    try dsimp only at h_M_2
    try dsimp only
    exact A_some h_M_2
theorem fx_N_readFact {J : Mem → Prop} {T0 : Nat} {M : Mem} (hT : ∀ M, J M → M 27 16 = (T0 : Int))  (w40_3 : ∀ M v, J M → J (up M 40 3 v)) (w40_5 : ∀ M v, J M → J (up M 40 5 v)) (w40_4 : ∀ M v, J M → J (up M 40 4 v)) (w40_7 : ∀ M v, J M → J (up M 40 7 v)) (w40_8 : ∀ M v, J M → J (up M 40 8 v)) (w40_9 : ∀ M v, J M → J (up M 40 9 v)) (w40_6 : ∀ M v, J M → J (up M 40 6 v)) (w32 : ∀ M k v, J M → J (up M 32 k v)) (wT0_0 : ∀ M v, J M → J (up M T0 0 v)) (h_M : J M) : A J (N_readFact M) := by
  unfold N_readFact
  refine A_T27 (hT _ h_M) ?_
  try dsimp only
  refine A_bT (fun x => ?_)
  try dsimp only
  refine A_bind (fx_N_begin hT w40_3 w40_5 w40_4 w40_7 w40_8 w40_9 w40_6 h_M) ?_
  rintro M_9 h_M_9
  try dsimp only at h_M_9
  try dsimp only
  refine A_bind (fx_N_readNewOfFactsAndRows hT w40_4 w40_8 w40_9 w40_3 w40_5 w40_7 w40_6 h_M_9) ?_
  rintro ⟨r_10, M_11⟩ h_M_11
  try dsimp only at h_M_11
  try dsimp only
  refine A_bind (fx_K_expect hT w40_3 w40_5 w40_4 w40_7 w40_8 w40_9 w40_6 h_M_11) ?_
  rintro M_12 h_M_12
  try dsimp only at h_M_12
  try dsimp only
  refine A_ite (fun _ => ?_) (fun _ => ?_)
  ·
    refine A_T27 (hT _ h_M_12) ?_
    try dsimp only
    refine A_chk (fun hchk => ?_)
    refine A_ltJ (w32 _ _ _ h_M_12) (fun M_18 h_M_18 => ?_)
    refine A_T27 (hT _ h_M_18) ?_
    try dsimp only
    refine A_ltJ (wT0_0 _ _ h_M_18) (fun M_22 h_M_22 => ?_)
    exact A_some h_M_22
  ·
    exact A_some h_M_12
theorem fx_N_readSmall {J : Mem → Prop} {T0 : Nat} {M : Mem} (hT : ∀ M, J M → M 27 16 = (T0 : Int))  (w40_4 : ∀ M v, J M → J (up M 40 4 v)) (w40_8 : ∀ M v, J M → J (up M 40 8 v)) (w40_9 : ∀ M v, J M → J (up M 40 9 v)) (w40_3 : ∀ M v, J M → J (up M 40 3 v)) (w40_5 : ∀ M v, J M → J (up M 40 5 v)) (w40_7 : ∀ M v, J M → J (up M 40 7 v)) (w40_6 : ∀ M v, J M → J (up M 40 6 v)) (h_M : J M) : A (fun r => J r.2) (N_readSmall M) := by
  unfold N_readSmall
  refine A_bind (J := J) ?_ ?_
  ·
    refine A_ite (fun _ => ?_) (fun _ => ?_)
    ·
      refine A_bind (fx_K_fail hT w40_4 w40_8 w40_9 h_M) ?_
      rintro M_5 h_M_5
      try dsimp only at h_M_5
      try dsimp only
      exact A_some h_M_5
    ·
      refine A_ite (fun _ => ?_) (fun _ => ?_)
      ·
        refine A_bind (fx_K_fail hT w40_4 w40_8 w40_9 h_M) ?_
        rintro M_6 h_M_6
        try dsimp only at h_M_6
        try dsimp only
        exact A_some h_M_6
      ·
        exact A_some h_M
  rintro M_1 h_M_1
  try dsimp only at h_M_1
  try dsimp only
  refine A_lt (fun l1_9 => ?_)
  refine A_bind (fx_K_pass hT w40_3 w40_5 w40_4 w40_7 w40_8 w40_9 w40_6 h_M_1) ?_
  rintro M_10 h_M_10
  try dsimp only at h_M_10
  try dsimp only
  exact A_some h_M_10
theorem fx_N_readFactBit {J : Mem → Prop} {T0 : Nat} {M : Mem} (hT : ∀ M, J M → M 27 16 = (T0 : Int)) {known : Int} (w40_4 : ∀ M v, J M → J (up M 40 4 v)) (w40_8 : ∀ M v, J M → J (up M 40 8 v)) (w40_9 : ∀ M v, J M → J (up M 40 9 v)) (w40_3 : ∀ M v, J M → J (up M 40 3 v)) (w40_5 : ∀ M v, J M → J (up M 40 5 v)) (w40_7 : ∀ M v, J M → J (up M 40 7 v)) (w40_6 : ∀ M v, J M → J (up M 40 6 v)) (h_M : J M) : A (fun r => J r.2) (N_readFactBit known M) := by
  unfold N_readFactBit
  refine A_bind (fx_N_seesName hT w40_4 w40_8 w40_9 h_M) ?_
  rintro ⟨r_1, M_2⟩ h_M_2
  try dsimp only at h_M_2
  try dsimp only
  refine A_bT (fun x => ?_)
  try dsimp only
  refine A_ite (fun _ => ?_) (fun _ => ?_)
  ·
    refine A_bind (fx_K_fail hT w40_4 w40_8 w40_9 h_M_2) ?_
    rintro M_9 h_M_9
    try dsimp only at h_M_9
    try dsimp only
    exact A_some h_M_9
  ·
    refine A_bT (fun x => ?_)
    try dsimp only
    refine A_bind (J := J) ?_ ?_
    ·
      refine A_ite (fun _ => ?_) (fun _ => ?_)
      ·
        refine A_bind (fx_K_fail hT w40_4 w40_8 w40_9 h_M_2) ?_
        rintro M_15 h_M_15
        try dsimp only at h_M_15
        try dsimp only
        exact A_some h_M_15
      ·
        exact A_some h_M_2
    rintro M_11 h_M_11
    try dsimp only at h_M_11
    try dsimp only
    refine A_bind (fx_K_pass hT w40_3 w40_5 w40_4 w40_7 w40_8 w40_9 w40_6 h_M_11) ?_
    rintro M_17 h_M_17
    try dsimp only at h_M_17
    try dsimp only
    exact A_some h_M_17
theorem fx_N_readKnown_b8 {J : Mem → Prop} {T0 : Nat} (hT : ∀ M, J M → M 27 16 = (T0 : Int))  (w40_4 : ∀ M v, J M → J (up M 40 4 v)) (w40_8 : ∀ M v, J M → J (up M 40 8 v)) (w40_9 : ∀ M v, J M → J (up M 40 9 v)) (w40_3 : ∀ M v, J M → J (up M 40 3 v)) (w40_5 : ∀ M v, J M → J (up M 40 5 v)) (w40_7 : ∀ M v, J M → J (up M 40 7 v)) (w40_6 : ∀ M v, J M → J (up M 40 6 v)) : ∀ x, (fun r => J r.2.2) x → A (sK (fun r => J r.2.2) (fun r => J r.2)) (N_readKnown_b8 x) := by
  rintro ⟨l1_3, l2_4, M_5⟩ h_M_5
  try dsimp only at h_M_5
  unfold N_readKnown_b8
  try dsimp only
  refine A_ite (fun _ => ?_) (fun _ => ?_)
  ·
    refine A_bind (fx_N_readFactBit hT w40_4 w40_8 w40_9 w40_3 w40_5 w40_7 w40_6 h_M_5) ?_
    rintro ⟨r_14, M_15⟩ h_M_15
    try dsimp only at h_M_15
    try dsimp only
    refine A_lt (fun l1_16 => ?_)
    refine A_lt (fun l2_17 => ?_)
    exact A_some h_M_15
  ·
    exact A_some h_M_5
theorem fx_N_readKnown {J : Mem → Prop} {T0 : Nat} {M : Mem} (hT : ∀ M, J M → M 27 16 = (T0 : Int))  (w40_4 : ∀ M v, J M → J (up M 40 4 v)) (w40_8 : ∀ M v, J M → J (up M 40 8 v)) (w40_9 : ∀ M v, J M → J (up M 40 9 v)) (w40_3 : ∀ M v, J M → J (up M 40 3 v)) (w40_5 : ∀ M v, J M → J (up M 40 5 v)) (w40_7 : ∀ M v, J M → J (up M 40 7 v)) (w40_6 : ∀ M v, J M → J (up M 40 6 v)) (h_M : J M) : A (fun r => J r.2) (N_readKnown M) := by
  unfold N_readKnown
  refine A_bind (fx_N_readFactBit hT w40_4 w40_8 w40_9 w40_3 w40_5 w40_7 w40_6 h_M) ?_
  rintro ⟨r_1, M_2⟩ h_M_2
  try dsimp only at h_M_2
  try dsimp only
  refine A_bind (J := (fun r => J r.2)) (A_it (I := (fun r => J r.2.2)) (fun x hx => fx_N_readKnown_b8 hT w40_4 w40_8 w40_9 w40_3 w40_5 w40_7 w40_6 x hx) h_M_2) ?_
  rintro ⟨l1_12, M_13⟩ h_M_13
  try dsimp only at h_M_13
  try dsimp only
  exact A_some h_M_13
theorem fx_N_readPerson {J : Mem → Prop} {T0 : Nat} {M : Mem} (hT : ∀ M, J M → M 27 16 = (T0 : Int))  (w40_3 : ∀ M v, J M → J (up M 40 3 v)) (w40_5 : ∀ M v, J M → J (up M 40 5 v)) (w40_4 : ∀ M v, J M → J (up M 40 4 v)) (w40_7 : ∀ M v, J M → J (up M 40 7 v)) (w40_8 : ∀ M v, J M → J (up M 40 8 v)) (w40_9 : ∀ M v, J M → J (up M 40 9 v)) (w40_6 : ∀ M v, J M → J (up M 40 6 v)) (w33 : ∀ M k v, J M → J (up M 33 k v)) (wT1 : ∀ M k v, J M → J (up M (T0 + 1) k v)) (wT2 : ∀ M k v, J M → J (up M (T0 + 2) k v)) (wT0_1 : ∀ M v, J M → J (up M T0 1 v)) (h_M : J M) : A J (N_readPerson M) := by
  unfold N_readPerson
  refine A_T27 (hT _ h_M) ?_
  try dsimp only
  refine A_bT (fun x => ?_)
  try dsimp only
  refine A_bind (fx_N_begin hT w40_3 w40_5 w40_4 w40_7 w40_8 w40_9 w40_6 h_M) ?_
  rintro M_9 h_M_9
  try dsimp only at h_M_9
  try dsimp only
  refine A_bind (fx_N_seesName hT w40_4 w40_8 w40_9 h_M_9) ?_
  rintro ⟨r_10, M_11⟩ h_M_11
  try dsimp only at h_M_11
  try dsimp only
  refine A_bind (J := J) ?_ ?_
  ·
    refine A_bT (fun x => ?_)
    try dsimp only
    refine A_ite (fun _ => ?_) (fun _ => ?_)
    ·
      refine A_bind (fx_K_fail hT w40_4 w40_8 w40_9 h_M_11) ?_
      rintro M_25 h_M_25
      try dsimp only at h_M_25
      try dsimp only
      exact A_some h_M_25
    ·
      exact A_some h_M_11
  rintro M_12 h_M_12
  try dsimp only at h_M_12
  try dsimp only
  refine A_bind (fx_N_takeName hT w40_3 w40_5 w40_4 w40_7 w40_8 w40_9 w40_6 h_M_12) ?_
  rintro ⟨r_26, M_27⟩ h_M_27
  try dsimp only at h_M_27
  try dsimp only
  refine A_bind (fx_K_expect hT w40_3 w40_5 w40_4 w40_7 w40_8 w40_9 w40_6 h_M_27) ?_
  rintro M_28 h_M_28
  try dsimp only at h_M_28
  try dsimp only
  refine A_bind (fx_N_readSmall hT w40_4 w40_8 w40_9 w40_3 w40_5 w40_7 w40_6 h_M_28) ?_
  rintro ⟨r_29, M_30⟩ h_M_30
  try dsimp only at h_M_30
  try dsimp only
  refine A_bind (J := (fun r => J r.2)) ?_ ?_
  ·
    refine A_ite (fun _ => ?_) (fun _ => ?_)
    ·
      refine A_bind (fx_K_pass hT w40_3 w40_5 w40_4 w40_7 w40_8 w40_9 w40_6 h_M_30) ?_
      rintro M_36 h_M_36
      try dsimp only at h_M_36
      try dsimp only
      refine A_bind (fx_N_readKnown hT w40_4 w40_8 w40_9 w40_3 w40_5 w40_7 w40_6 h_M_36) ?_
      rintro ⟨r_37, M_38⟩ h_M_38
      try dsimp only at h_M_38
      try dsimp only
      exact A_some h_M_38
    ·
      exact A_some h_M_30
  rintro ⟨l4_31, M_32⟩ h_M_32
  try dsimp only at h_M_32
  try dsimp only
  refine A_bind (fx_K_expect hT w40_3 w40_5 w40_4 w40_7 w40_8 w40_9 w40_6 h_M_32) ?_
  rintro M_40 h_M_40
  try dsimp only at h_M_40
  try dsimp only
  refine A_ite (fun _ => ?_) (fun _ => ?_)
  ·
    refine A_T27 (hT _ h_M_40) ?_
    try dsimp only
    refine A_chk (fun hchk => ?_)
    refine A_ltJ (w33 _ _ _ h_M_40) (fun M_46 h_M_46 => ?_)
    refine A_T27 (hT _ h_M_46) ?_
    try dsimp only
    refine A_chk (fun hchk => ?_)
    refine A_ltJ (wT1 _ _ _ h_M_46) (fun M_52 h_M_52 => ?_)
    refine A_T27 (hT _ h_M_52) ?_
    try dsimp only
    refine A_chk (fun hchk => ?_)
    refine A_ltJ (wT2 _ _ _ h_M_52) (fun M_58 h_M_58 => ?_)
    refine A_T27 (hT _ h_M_58) ?_
    try dsimp only
    refine A_ltJ (wT0_1 _ _ h_M_58) (fun M_62 h_M_62 => ?_)
    exact A_some h_M_62
  ·
    exact A_some h_M_40
theorem fx_S_add {J : Mem → Prop} {T0 : Nat} {M : Mem} (hT : ∀ M, J M → M 27 16 = (T0 : Int)) {sign : Int} {of_ : Int} (w29 : ∀ M k v, J M → J (up M 29 k v)) (w28_1 : ∀ M v, J M → J (up M 28 1 v)) (h_M : J M) : A J (S_add sign of_ M) := by
  unfold S_add
  refine A_ite (fun _ => ?_) (fun _ => ?_)
  ·
    refine A_chk (fun hchk => ?_)
    refine A_ltJ (w29 _ _ _ h_M) (fun M_3 h_M_3 => ?_)
    refine A_ltJ (w28_1 _ _ h_M_3) (fun M_4 h_M_4 => ?_)
    exact A_some h_M_4
  ·
    exact A_some h_M
theorem fx_N_takesUnit {J : Mem → Prop} {T0 : Nat} {M : Mem} (hT : ∀ M, J M → M 27 16 = (T0 : Int)) {begins : Int} {depth : Int} (w40_4 : ∀ M v, J M → J (up M 40 4 v)) (w40_8 : ∀ M v, J M → J (up M 40 8 v)) (w40_9 : ∀ M v, J M → J (up M 40 9 v)) (wT0_5 : ∀ M v, J M → J (up M T0 5 v)) (h_M : J M) : A (fun r => J r.2) (N_takesUnit begins depth M) := by
  unfold N_takesUnit
  refine A_bT (fun x => ?_)
  try dsimp only
  refine A_bT (fun x => ?_)
  try dsimp only
  refine A_ite (fun _ => ?_) (fun _ => ?_)
  ·
    refine A_bind (fx_K_fail hT w40_4 w40_8 w40_9 h_M) ?_
    rintro M_19 h_M_19
    try dsimp only at h_M_19
    try dsimp only
    exact A_some h_M_19
  ·
    refine A_T27 (hT _ h_M) ?_
    try dsimp only
    refine A_ltJ (wT0_5 _ _ h_M) (fun M_23 h_M_23 => ?_)
    exact A_some h_M_23
theorem fx_N_seePerson {J : Mem → Prop} {T0 : Nat} {M : Mem} (hT : ∀ M, J M → M 27 16 = (T0 : Int))  (w40_4 : ∀ M v, J M → J (up M 40 4 v)) (w40_8 : ∀ M v, J M → J (up M 40 8 v)) (w40_9 : ∀ M v, J M → J (up M 40 9 v)) (h_M : J M) : A (fun r => J r.2) (N_seePerson M) := by
  unfold N_seePerson
  refine A_bind (fx_N_seesName hT w40_4 w40_8 w40_9 h_M) ?_
  rintro ⟨r_1, M_2⟩ h_M_2
  try dsimp only at h_M_2
  try dsimp only
  refine A_bT (fun x => ?_)
  try dsimp only
  refine A_bind (J := J) ?_ ?_
  ·
    refine A_ite (fun _ => ?_) (fun _ => ?_)
    ·
      refine A_bind (fx_K_fail hT w40_4 w40_8 w40_9 h_M_2) ?_
      rintro M_16 h_M_16
      try dsimp only at h_M_16
      try dsimp only
      exact A_some h_M_16
    ·
      exact A_some h_M_2
  rintro M_12 h_M_12
  try dsimp only at h_M_12
  try dsimp only
  exact A_some h_M_12
theorem fx_N_readBoth_b7 {J : Mem → Prop} {T0 : Nat} (hT : ∀ M, J M → M 27 16 = (T0 : Int)) {rec_ : Int → Mem → Option (Mem)} {depth : Int} (w40_3 : ∀ M v, J M → J (up M 40 3 v)) (w40_5 : ∀ M v, J M → J (up M 40 5 v)) (w40_4 : ∀ M v, J M → J (up M 40 4 v)) (w40_7 : ∀ M v, J M → J (up M 40 7 v)) (w40_8 : ∀ M v, J M → J (up M 40 8 v)) (w40_9 : ∀ M v, J M → J (up M 40 9 v)) (w40_6 : ∀ M v, J M → J (up M 40 6 v)) (w29 : ∀ M k v, J M → J (up M 29 k v)) (w28_1 : ∀ M v, J M → J (up M 28 1 v)) (hrec : ∀ (y0 : Int) (M : Mem), J M → A J (rec_ y0 M)) : ∀ x, (fun r => J r.2) x → A (sK (fun r => J r.2) J) (N_readBoth_b7 rec_ depth x) := by
  rintro ⟨l2_2, M_3⟩ h_M_3
  try dsimp only at h_M_3
  unfold N_readBoth_b7
  try dsimp only
  refine A_ite (fun _ => ?_) (fun _ => ?_)
  ·
    refine A_bind (fx_K_pass hT w40_3 w40_5 w40_4 w40_7 w40_8 w40_9 w40_6 h_M_3) ?_
    rintro M_11 h_M_11
    try dsimp only at h_M_11
    try dsimp only
    refine A_bind (hrec _ _ h_M_11) ?_
    rintro M_12 h_M_12
    try dsimp only at h_M_12
    try dsimp only
    refine A_bind (fx_S_add hT w29 w28_1 h_M_12) ?_
    rintro M_13 h_M_13
    try dsimp only at h_M_13
    try dsimp only
    refine A_lt (fun l2_14 => ?_)
    exact A_some h_M_13
  ·
    exact A_some h_M_3
theorem fx_N_readBoth {J : Mem → Prop} {T0 : Nat} {M : Mem} (hT : ∀ M, J M → M 27 16 = (T0 : Int)) {rec_ : Int → Mem → Option (Mem)} {depth : Int} (w40_3 : ∀ M v, J M → J (up M 40 3 v)) (w40_5 : ∀ M v, J M → J (up M 40 5 v)) (w40_4 : ∀ M v, J M → J (up M 40 4 v)) (w40_7 : ∀ M v, J M → J (up M 40 7 v)) (w40_8 : ∀ M v, J M → J (up M 40 8 v)) (w40_9 : ∀ M v, J M → J (up M 40 9 v)) (w40_6 : ∀ M v, J M → J (up M 40 6 v)) (w29 : ∀ M k v, J M → J (up M 29 k v)) (w28_1 : ∀ M v, J M → J (up M 28 1 v)) (hrec : ∀ (y0 : Int) (M : Mem), J M → A J (rec_ y0 M)) (h_M : J M) : A J (N_readBoth rec_ depth M) := by
  unfold N_readBoth
  refine A_bind (hrec _ _ h_M) ?_
  rintro M_1 h_M_1
  try dsimp only at h_M_1
  try dsimp only
  refine A_bind (J := J) (A_it (I := (fun r => J r.2)) (fun x hx => fx_N_readBoth_b7 hT w40_3 w40_5 w40_4 w40_7 w40_8 w40_9 w40_6 w29 w28_1 hrec x hx) h_M_1) ?_
  rintro M_10 h_M_10
  try dsimp only at h_M_10
  try dsimp only
  exact A_some h_M_10
theorem fx_N_readAlt_b7 {J : Mem → Prop} {T0 : Nat} (hT : ∀ M, J M → M 27 16 = (T0 : Int)) {rec_ : Int → Mem → Option (Mem)} {depth : Int} (w40_3 : ∀ M v, J M → J (up M 40 3 v)) (w40_5 : ∀ M v, J M → J (up M 40 5 v)) (w40_4 : ∀ M v, J M → J (up M 40 4 v)) (w40_7 : ∀ M v, J M → J (up M 40 7 v)) (w40_8 : ∀ M v, J M → J (up M 40 8 v)) (w40_9 : ∀ M v, J M → J (up M 40 9 v)) (w40_6 : ∀ M v, J M → J (up M 40 6 v)) (w29 : ∀ M k v, J M → J (up M 29 k v)) (w28_1 : ∀ M v, J M → J (up M 28 1 v)) (hrec : ∀ (y0 : Int) (M : Mem), J M → A J (rec_ y0 M)) : ∀ x, (fun r => J r.2) x → A (sK (fun r => J r.2) J) (N_readAlt_b7 rec_ depth x) := by
  rintro ⟨l2_2, M_3⟩ h_M_3
  try dsimp only at h_M_3
  unfold N_readAlt_b7
  try dsimp only
  refine A_ite (fun _ => ?_) (fun _ => ?_)
  ·
    refine A_bind (fx_K_pass hT w40_3 w40_5 w40_4 w40_7 w40_8 w40_9 w40_6 h_M_3) ?_
    rintro M_11 h_M_11
    try dsimp only at h_M_11
    try dsimp only
    refine A_bind (fx_N_readBoth hT w40_3 w40_5 w40_4 w40_7 w40_8 w40_9 w40_6 w29 w28_1 hrec h_M_11) ?_
    rintro M_12 h_M_12
    try dsimp only at h_M_12
    try dsimp only
    refine A_bind (fx_S_add hT w29 w28_1 h_M_12) ?_
    rintro M_13 h_M_13
    try dsimp only at h_M_13
    try dsimp only
    refine A_lt (fun l2_14 => ?_)
    exact A_some h_M_13
  ·
    exact A_some h_M_3
theorem fx_N_readAlt {J : Mem → Prop} {T0 : Nat} {M : Mem} (hT : ∀ M, J M → M 27 16 = (T0 : Int)) {rec_ : Int → Mem → Option (Mem)} {depth : Int} (w40_3 : ∀ M v, J M → J (up M 40 3 v)) (w40_5 : ∀ M v, J M → J (up M 40 5 v)) (w40_4 : ∀ M v, J M → J (up M 40 4 v)) (w40_7 : ∀ M v, J M → J (up M 40 7 v)) (w40_8 : ∀ M v, J M → J (up M 40 8 v)) (w40_9 : ∀ M v, J M → J (up M 40 9 v)) (w40_6 : ∀ M v, J M → J (up M 40 6 v)) (w29 : ∀ M k v, J M → J (up M 29 k v)) (w28_1 : ∀ M v, J M → J (up M 28 1 v)) (hrec : ∀ (y0 : Int) (M : Mem), J M → A J (rec_ y0 M)) (h_M : J M) : A J (N_readAlt rec_ depth M) := by
  unfold N_readAlt
  refine A_bind (fx_N_readBoth hT w40_3 w40_5 w40_4 w40_7 w40_8 w40_9 w40_6 w29 w28_1 hrec h_M) ?_
  rintro M_1 h_M_1
  try dsimp only at h_M_1
  try dsimp only
  refine A_bind (J := J) (A_it (I := (fun r => J r.2)) (fun x hx => fx_N_readAlt_b7 hT w40_3 w40_5 w40_4 w40_7 w40_8 w40_9 w40_6 w29 w28_1 hrec x hx) h_M_1) ?_
  rintro M_10 h_M_10
  try dsimp only at h_M_10
  try dsimp only
  exact A_some h_M_10
theorem fx_N_readE {J : Mem → Prop} {T0 : Nat} {M : Mem} (hT : ∀ M, J M → M 27 16 = (T0 : Int)) {rec_ : Int → Mem → Option (Mem)} {depth : Int} (w40_3 : ∀ M v, J M → J (up M 40 3 v)) (w40_5 : ∀ M v, J M → J (up M 40 5 v)) (w40_4 : ∀ M v, J M → J (up M 40 4 v)) (w40_7 : ∀ M v, J M → J (up M 40 7 v)) (w40_8 : ∀ M v, J M → J (up M 40 8 v)) (w40_9 : ∀ M v, J M → J (up M 40 9 v)) (w40_6 : ∀ M v, J M → J (up M 40 6 v)) (w29 : ∀ M k v, J M → J (up M 29 k v)) (w28_1 : ∀ M v, J M → J (up M 28 1 v)) (hrec : ∀ (y0 : Int) (M : Mem), J M → A J (rec_ y0 M)) (h_M : J M) : A J (N_readE rec_ depth M) := by
  unfold N_readE
  refine A_bind (fx_N_readAlt hT w40_3 w40_5 w40_4 w40_7 w40_8 w40_9 w40_6 w29 w28_1 hrec h_M) ?_
  rintro M_1 h_M_1
  try dsimp only at h_M_1
  try dsimp only
  refine A_ite (fun _ => ?_) (fun _ => ?_)
  ·
    refine A_bind (fx_K_pass hT w40_3 w40_5 w40_4 w40_7 w40_8 w40_9 w40_6 h_M_1) ?_
    rintro M_2 h_M_2
    try dsimp only at h_M_2
    try dsimp only
    refine A_bind (fx_N_readAlt hT w40_3 w40_5 w40_4 w40_7 w40_8 w40_9 w40_6 w29 w28_1 hrec h_M_2) ?_
    rintro M_3 h_M_3
    try dsimp only at h_M_3
    try dsimp only
    refine A_bind (fx_S_add hT w29 w28_1 h_M_3) ?_
    rintro M_4 h_M_4
    try dsimp only at h_M_4
    try dsimp only
    exact A_some h_M_4
  ·
    exact A_some h_M_1
theorem fx_N_readUnit {J : Mem → Prop} {T0 : Nat} {M : Mem} (hT : ∀ M, J M → M 27 16 = (T0 : Int)) {rec_ : Int → Mem → Option (Mem)} {depth : Int} (w40_4 : ∀ M v, J M → J (up M 40 4 v)) (w40_8 : ∀ M v, J M → J (up M 40 8 v)) (w40_9 : ∀ M v, J M → J (up M 40 9 v)) (wT0_5 : ∀ M v, J M → J (up M T0 5 v)) (w40_3 : ∀ M v, J M → J (up M 40 3 v)) (w40_5 : ∀ M v, J M → J (up M 40 5 v)) (w40_7 : ∀ M v, J M → J (up M 40 7 v)) (w40_6 : ∀ M v, J M → J (up M 40 6 v)) (w29 : ∀ M k v, J M → J (up M 29 k v)) (w28_1 : ∀ M v, J M → J (up M 28 1 v)) (w27_15 : ∀ M v, v = 0 ∨ v = 1 → J M → J (up M 27 15 v)) (hrec : ∀ (y0 : Int) (M : Mem), J M → A J (rec_ y0 M)) (h_M : J M) : A J (N_readUnit rec_ depth M) := by
  unfold N_readUnit
  refine A_bT (fun x => ?_)
  try dsimp only
  refine A_bT (fun x => ?_)
  try dsimp only
  refine A_bind (fx_N_takesUnit hT w40_4 w40_8 w40_9 wT0_5 h_M) ?_
  rintro ⟨r_16, M_17⟩ h_M_17
  try dsimp only at h_M_17
  try dsimp only
  refine A_ite (fun _ => ?_) (fun _ => ?_)
  ·
    exact A_some h_M_17
  ·
    refine A_ite (fun _ => ?_) (fun _ => ?_)
    ·
      refine A_bind (fx_K_pass hT w40_3 w40_5 w40_4 w40_7 w40_8 w40_9 w40_6 h_M_17) ?_
      rintro M_18 h_M_18
      try dsimp only at h_M_18
      try dsimp only
      refine A_bind (fx_N_readE hT w40_3 w40_5 w40_4 w40_7 w40_8 w40_9 w40_6 w29 w28_1 hrec h_M_18) ?_
      rintro M_19 h_M_19
      try dsimp only at h_M_19
      try dsimp only
      refine A_bind (fx_K_expect hT w40_3 w40_5 w40_4 w40_7 w40_8 w40_9 w40_6 h_M_19) ?_
      rintro M_20 h_M_20
      try dsimp only at h_M_20
      try dsimp only
      exact A_some h_M_20
    ·
      refine A_bT (fun x => ?_)
      try dsimp only
      refine A_bT (fun x => ?_)
      try dsimp only
      refine A_bind (J := J) ?_ ?_
      ·
        refine A_ite (fun _ => ?_) (fun _ => ?_)
        ·
          refine A_bind (fx_S_add hT w29 w28_1 h_M_17) ?_
          rintro M_27 h_M_27
          try dsimp only at h_M_27
          try dsimp only
          exact A_some h_M_27
        ·
          refine A_jn (J := J) (fun M_28 h_M_28 => ?_) (fun j_29 hj_29 => ?_)
          ·
            refine A_bind (fx_K_fail hT w40_4 w40_8 w40_9 h_M_28) ?_
            rintro M_45 h_M_45
            try dsimp only at h_M_45
            try dsimp only
            exact A_some h_M_45
          refine A_ite (fun _ => ?_) (fun _ => ?_)
          ·
            refine A_bT (fun x => ?_)
            try dsimp only
            refine A_ite (fun _ => ?_) (fun _ => ?_)
            ·
              refine A_chk (fun hchk => ?_)
              refine A_chk (fun hchk => ?_)
              refine A_ltJ (w27_15 _ _ (by first | exact hchk | decide) h_M_17) (fun M_42 h_M_42 => ?_)
              refine A_bind (fx_S_add hT w29 w28_1 h_M_42) ?_
              rintro M_43 h_M_43
              try dsimp only at h_M_43
              try dsimp only
              exact A_some h_M_43
            ·
              exact hj_29 _ h_M_17
          ·
            exact hj_29 _ h_M_17
      rintro M_23 h_M_23
      try dsimp only at h_M_23
      try dsimp only
      refine A_bind (fx_K_pass hT w40_3 w40_5 w40_4 w40_7 w40_8 w40_9 w40_6 h_M_23) ?_
      rintro M_47 h_M_47
      try dsimp only at h_M_47
      try dsimp only
      exact A_some h_M_47
theorem fx_N_readOne_s {J : Mem → Prop} {T0 : Nat} {M : Mem} (hT : ∀ M, J M → M 27 16 = (T0 : Int)) {rec_ : Int → Mem → Option (Mem)} {depth : Int} (w40_4 : ∀ M v, J M → J (up M 40 4 v)) (w40_8 : ∀ M v, J M → J (up M 40 8 v)) (w40_9 : ∀ M v, J M → J (up M 40 9 v)) (wT0_5 : ∀ M v, J M → J (up M T0 5 v)) (w40_3 : ∀ M v, J M → J (up M 40 3 v)) (w40_5 : ∀ M v, J M → J (up M 40 5 v)) (w40_7 : ∀ M v, J M → J (up M 40 7 v)) (w40_6 : ∀ M v, J M → J (up M 40 6 v)) (w29 : ∀ M k v, J M → J (up M 29 k v)) (w28_1 : ∀ M v, J M → J (up M 28 1 v)) (w27_15 : ∀ M v, v = 0 ∨ v = 1 → J M → J (up M 27 15 v)) (hrec : ∀ (y0 : Int) (M : Mem), J M → A J (rec_ y0 M)) (h_M : J M) : A J (N_readOne_s rec_ depth M) := by
  unfold N_readOne_s
  refine A_lt (fun l2_1 => ?_)
  refine A_bT (fun x => ?_)
  try dsimp only
  refine A_ite (fun _ => ?_) (fun _ => ?_)
  ·
    refine A_bind (fx_N_readUnit hT w40_4 w40_8 w40_9 wT0_5 w40_3 w40_5 w40_7 w40_6 w29 w28_1 w27_15 hrec h_M) ?_
    rintro M_12 h_M_12
    try dsimp only at h_M_12
    try dsimp only
    exact A_some h_M_12
  ·
    refine A_jn (J := J) (fun M_13 h_M_13 => ?_) (fun j_14 hj_14 => ?_)
    ·
      refine A_bind (fx_K_fail hT w40_4 w40_8 w40_9 h_M_13) ?_
      rintro M_37 h_M_37
      try dsimp only at h_M_37
      try dsimp only
      exact A_some h_M_37
    refine A_ite (fun _ => ?_) (fun _ => ?_)
    ·
      refine A_ite (fun _ => ?_) (fun _ => ?_)
      ·
        exact hj_14 _ h_M
      ·
        refine A_bind (fx_K_pass hT w40_3 w40_5 w40_4 w40_7 w40_8 w40_9 w40_6 h_M) ?_
        rintro M_17 h_M_17
        try dsimp only at h_M_17
        try dsimp only
        refine A_bind (J := (fun r => J r.2)) ?_ ?_
        ·
          refine A_ite (fun _ => ?_) (fun _ => ?_)
          ·
            refine A_ltJ (w27_15 _ _ (by first | exact hchk | decide) h_M_17) (fun M_23 h_M_23 => ?_)
            refine A_bind (fx_N_seePerson hT w40_4 w40_8 w40_9 h_M_23) ?_
            rintro ⟨r_24, M_25⟩ h_M_25
            try dsimp only at h_M_25
            try dsimp only
            refine A_bind (fx_K_pass hT w40_3 w40_5 w40_4 w40_7 w40_8 w40_9 w40_6 h_M_25) ?_
            rintro M_26 h_M_26
            try dsimp only at h_M_26
            try dsimp only
            exact A_some h_M_26
          ·
            exact A_some h_M_17
        rintro ⟨l4_18, M_19⟩ h_M_19
        try dsimp only at h_M_19
        try dsimp only
        refine A_bind (hrec _ _ h_M_19) ?_
        rintro M_28 h_M_28
        try dsimp only at h_M_28
        try dsimp only
        refine A_bind (fx_S_add hT w29 w28_1 h_M_28) ?_
        rintro M_29 h_M_29
        try dsimp only at h_M_29
        try dsimp only
        exact A_some h_M_29
    ·
      exact hj_14 _ h_M
theorem fx_N_readOne {J : Mem → Prop} {T0 : Nat} (hT : ∀ M, J M → M 27 16 = (T0 : Int)) (w40_4 : ∀ M v, J M → J (up M 40 4 v)) (w40_8 : ∀ M v, J M → J (up M 40 8 v)) (w40_9 : ∀ M v, J M → J (up M 40 9 v)) (wT0_5 : ∀ M v, J M → J (up M T0 5 v)) (w40_3 : ∀ M v, J M → J (up M 40 3 v)) (w40_5 : ∀ M v, J M → J (up M 40 5 v)) (w40_7 : ∀ M v, J M → J (up M 40 7 v)) (w40_6 : ∀ M v, J M → J (up M 40 6 v)) (w29 : ∀ M k v, J M → J (up M 29 k v)) (w28_1 : ∀ M v, J M → J (up M 28 1 v)) (w27_15 : ∀ M v, v = 0 ∨ v = 1 → J M → J (up M 27 15 v)) : ∀ (d : Nat) (x0 : Int) {M : Mem}, J M → A J (N_readOne d x0 M)
  | 0, _, _, _ => A_none
  | d + 1, _, _, h => fx_N_readOne_s hT w40_4 w40_8 w40_9 wT0_5 w40_3 w40_5 w40_7 w40_6 w29 w28_1 w27_15 (fun _ _ h => fx_N_readOne hT w40_4 w40_8 w40_9 wT0_5 w40_3 w40_5 w40_7 w40_6 w29 w28_1 w27_15 d _ h) h
theorem fx_N_readRow {J : Mem → Prop} {T0 : Nat} {M : Mem} (hT : ∀ M, J M → M 27 16 = (T0 : Int))  (w40_3 : ∀ M v, J M → J (up M 40 3 v)) (w40_5 : ∀ M v, J M → J (up M 40 5 v)) (w40_4 : ∀ M v, J M → J (up M 40 4 v)) (w40_7 : ∀ M v, J M → J (up M 40 7 v)) (w40_8 : ∀ M v, J M → J (up M 40 8 v)) (w40_9 : ∀ M v, J M → J (up M 40 9 v)) (w40_6 : ∀ M v, J M → J (up M 40 6 v)) (w27_14 : ∀ M v, J M → J (up M 27 14 v)) (w27_15 : ∀ M v, v = 0 ∨ v = 1 → J M → J (up M 27 15 v)) (w29 : ∀ M k v, J M → J (up M 29 k v)) (w28_1 : ∀ M v, J M → J (up M 28 1 v)) (wT0_5 : ∀ M v, J M → J (up M T0 5 v)) (w34 : ∀ M k v, J M → J (up M 34 k v)) (w35 : ∀ M k v, J M → J (up M 35 k v)) (w36 : ∀ M k v, J M → J (up M 36 k v)) (w37 : ∀ M k v, J M → J (up M 37 k v)) (wT0_2 : ∀ M v, J M → J (up M T0 2 v)) (h_M : J M) : A J (N_readRow M) := by
  unfold N_readRow
  refine A_T27 (hT _ h_M) ?_
  try dsimp only
  refine A_bT (fun x => ?_)
  try dsimp only
  refine A_bind (fx_N_begin hT w40_3 w40_5 w40_4 w40_7 w40_8 w40_9 w40_6 h_M) ?_
  rintro M_9 h_M_9
  try dsimp only at h_M_9
  try dsimp only
  refine A_bind (fx_N_readNewOfFactsAndRows hT w40_4 w40_8 w40_9 w40_3 w40_5 w40_7 w40_6 h_M_9) ?_
  rintro ⟨r_10, M_11⟩ h_M_11
  try dsimp only at h_M_11
  try dsimp only
  refine A_lt (fun l3_12 => ?_)
  refine A_ltJ (w27_14 _ _ h_M_11) (fun M_13 h_M_13 => ?_)
  refine A_ltJ (w27_15 _ _ (by first | exact hchk | decide) h_M_13) (fun M_14 h_M_14 => ?_)
  refine A_bind (fx_N_readE hT w40_3 w40_5 w40_4 w40_7 w40_8 w40_9 w40_6 w29 w28_1 (fun x0 M h => fx_N_readOne hT w40_4 w40_8 w40_9 wT0_5 w40_3 w40_5 w40_7 w40_6 w29 w28_1 w27_15 10 _ h) h_M_14) ?_
  rintro M_15 h_M_15
  try dsimp only at h_M_15
  try dsimp only
  refine A_lt (fun l4_16 => ?_)
  refine A_bind (fx_K_expect hT w40_3 w40_5 w40_4 w40_7 w40_8 w40_9 w40_6 h_M_15) ?_
  rintro M_17 h_M_17
  try dsimp only at h_M_17
  try dsimp only
  refine A_ite (fun _ => ?_) (fun _ => ?_)
  ·
    refine A_T27 (hT _ h_M_17) ?_
    try dsimp only
    refine A_chk (fun hchk => ?_)
    refine A_ltJ (w34 _ _ _ h_M_17) (fun M_23 h_M_23 => ?_)
    refine A_T27 (hT _ h_M_23) ?_
    try dsimp only
    refine A_chk (fun hchk => ?_)
    refine A_ltJ (w35 _ _ _ h_M_23) (fun M_29 h_M_29 => ?_)
    refine A_T27 (hT _ h_M_29) ?_
    try dsimp only
    refine A_chk (fun hchk => ?_)
    refine A_ltJ (w36 _ _ _ h_M_29) (fun M_35 h_M_35 => ?_)
    refine A_T27 (hT _ h_M_35) ?_
    try dsimp only
    refine A_chk (fun hchk => ?_)
    refine A_chk (fun hchk => ?_)
    refine A_ltJ (w37 _ _ _ h_M_35) (fun M_42 h_M_42 => ?_)
    refine A_T27 (hT _ h_M_42) ?_
    try dsimp only
    refine A_ltJ (wT0_2 _ _ h_M_42) (fun M_46 h_M_46 => ?_)
    exact A_some h_M_46
  ·
    exact A_some h_M_17
theorem fx_N_readAlways {J : Mem → Prop} {T0 : Nat} {M : Mem} (hT : ∀ M, J M → M 27 16 = (T0 : Int))  (w40_3 : ∀ M v, J M → J (up M 40 3 v)) (w40_5 : ∀ M v, J M → J (up M 40 5 v)) (w40_4 : ∀ M v, J M → J (up M 40 4 v)) (w40_7 : ∀ M v, J M → J (up M 40 7 v)) (w40_8 : ∀ M v, J M → J (up M 40 8 v)) (w40_9 : ∀ M v, J M → J (up M 40 9 v)) (w40_6 : ∀ M v, J M → J (up M 40 6 v)) (w27_14 : ∀ M v, J M → J (up M 27 14 v)) (w29 : ∀ M k v, J M → J (up M 29 k v)) (w28_1 : ∀ M v, J M → J (up M 28 1 v)) (wT0_5 : ∀ M v, J M → J (up M T0 5 v)) (w27_15 : ∀ M v, v = 0 ∨ v = 1 → J M → J (up M 27 15 v)) (w38 : ∀ M k v, J M → J (up M 38 k v)) (w39 : ∀ M k v, J M → J (up M 39 k v)) (w27_10 : ∀ M v, J M → J (up M 27 10 v)) (h_M : J M) : A J (N_readAlways M) := by
  unfold N_readAlways
  refine A_bT (fun x => ?_)
  try dsimp only
  refine A_bind (fx_N_begin hT w40_3 w40_5 w40_4 w40_7 w40_8 w40_9 w40_6 h_M) ?_
  rintro M_6 h_M_6
  try dsimp only at h_M_6
  try dsimp only
  refine A_lt (fun l1_7 => ?_)
  refine A_ltJ (w27_14 _ _ h_M_6) (fun M_8 h_M_8 => ?_)
  refine A_bind (fx_N_readE hT w40_3 w40_5 w40_4 w40_7 w40_8 w40_9 w40_6 w29 w28_1 (fun x0 M h => fx_N_readOne hT w40_4 w40_8 w40_9 wT0_5 w40_3 w40_5 w40_7 w40_6 w29 w28_1 w27_15 10 _ h) h_M_8) ?_
  rintro M_9 h_M_9
  try dsimp only at h_M_9
  try dsimp only
  refine A_lt (fun l2_10 => ?_)
  refine A_bind (fx_K_expect hT w40_3 w40_5 w40_4 w40_7 w40_8 w40_9 w40_6 h_M_9) ?_
  rintro M_11 h_M_11
  try dsimp only at h_M_11
  try dsimp only
  refine A_ite (fun _ => ?_) (fun _ => ?_)
  ·
    refine A_chk (fun hchk => ?_)
    refine A_ltJ (w38 _ _ _ h_M_11) (fun M_14 h_M_14 => ?_)
    refine A_chk (fun hchk => ?_)
    refine A_ltJ (w39 _ _ _ h_M_14) (fun M_17 h_M_17 => ?_)
    refine A_ltJ (w27_10 _ _ h_M_17) (fun M_18 h_M_18 => ?_)
    exact A_some h_M_18
  ·
    exact A_some h_M_11
theorem fx_N_readTie {J : Mem → Prop} {T0 : Nat} {M : Mem} (hT : ∀ M, J M → M 27 16 = (T0 : Int))  (w40_3 : ∀ M v, J M → J (up M 40 3 v)) (w40_5 : ∀ M v, J M → J (up M 40 5 v)) (w40_4 : ∀ M v, J M → J (up M 40 4 v)) (w40_7 : ∀ M v, J M → J (up M 40 7 v)) (w40_8 : ∀ M v, J M → J (up M 40 8 v)) (w40_9 : ∀ M v, J M → J (up M 40 9 v)) (w40_6 : ∀ M v, J M → J (up M 40 6 v)) (wT4 : ∀ M k v, J M → J (up M (T0 + 4) k v)) (wT5 : ∀ M k v, J M → J (up M (T0 + 5) k v)) (wT6 : ∀ M k v, J M → J (up M (T0 + 6) k v)) (wT3 : ∀ M k v, J M → J (up M (T0 + 3) k v)) (wT0_3 : ∀ M v, J M → J (up M T0 3 v)) (h_M : J M) : A J (N_readTie M) := by
  unfold N_readTie
  refine A_T27 (hT _ h_M) ?_
  try dsimp only
  refine A_bT (fun x => ?_)
  try dsimp only
  refine A_bind (fx_N_begin hT w40_3 w40_5 w40_4 w40_7 w40_8 w40_9 w40_6 h_M) ?_
  rintro M_9 h_M_9
  try dsimp only at h_M_9
  try dsimp only
  refine A_bind (fx_N_seePerson hT w40_4 w40_8 w40_9 h_M_9) ?_
  rintro ⟨r_10, M_11⟩ h_M_11
  try dsimp only at h_M_11
  try dsimp only
  refine A_bind (fx_K_pass hT w40_3 w40_5 w40_4 w40_7 w40_8 w40_9 w40_6 h_M_11) ?_
  rintro M_12 h_M_12
  try dsimp only at h_M_12
  try dsimp only
  refine A_bind (fx_N_seePerson hT w40_4 w40_8 w40_9 h_M_12) ?_
  rintro ⟨r_13, M_14⟩ h_M_14
  try dsimp only at h_M_14
  try dsimp only
  refine A_bind (J := J) ?_ ?_
  ·
    refine A_ite (fun _ => ?_) (fun _ => ?_)
    ·
      refine A_bT (fun x => ?_)
      try dsimp only
      refine A_ite (fun _ => ?_) (fun _ => ?_)
      ·
        refine A_bind (fx_K_fail hT w40_4 w40_8 w40_9 h_M_14) ?_
        rintro M_30 h_M_30
        try dsimp only at h_M_30
        try dsimp only
        exact A_some h_M_30
      ·
        exact A_some h_M_14
    ·
      exact A_some h_M_14
  rintro M_15 h_M_15
  try dsimp only at h_M_15
  try dsimp only
  refine A_bind (fx_K_pass hT w40_3 w40_5 w40_4 w40_7 w40_8 w40_9 w40_6 h_M_15) ?_
  rintro M_37 h_M_37
  try dsimp only at h_M_37
  try dsimp only
  refine A_bind (fx_K_expect hT w40_3 w40_5 w40_4 w40_7 w40_8 w40_9 w40_6 h_M_37) ?_
  rintro M_38 h_M_38
  try dsimp only at h_M_38
  try dsimp only
  refine A_bind (fx_N_readSmall hT w40_4 w40_8 w40_9 w40_3 w40_5 w40_7 w40_6 h_M_38) ?_
  rintro ⟨r_39, M_40⟩ h_M_40
  try dsimp only at h_M_40
  try dsimp only
  refine A_bind (fx_K_expect hT w40_3 w40_5 w40_4 w40_7 w40_8 w40_9 w40_6 h_M_40) ?_
  rintro M_41 h_M_41
  try dsimp only at h_M_41
  try dsimp only
  refine A_ite (fun _ => ?_) (fun _ => ?_)
  ·
    refine A_T27 (hT _ h_M_41) ?_
    try dsimp only
    refine A_chk (fun hchk => ?_)
    refine A_ltJ (wT4 _ _ _ h_M_41) (fun M_47 h_M_47 => ?_)
    refine A_T27 (hT _ h_M_47) ?_
    try dsimp only
    refine A_chk (fun hchk => ?_)
    refine A_ltJ (wT5 _ _ _ h_M_47) (fun M_53 h_M_53 => ?_)
    refine A_T27 (hT _ h_M_53) ?_
    try dsimp only
    refine A_chk (fun hchk => ?_)
    refine A_ltJ (wT6 _ _ _ h_M_53) (fun M_59 h_M_59 => ?_)
    refine A_T27 (hT _ h_M_59) ?_
    try dsimp only
    refine A_chk (fun hchk => ?_)
    refine A_ltJ (wT3 _ _ _ h_M_59) (fun M_65 h_M_65 => ?_)
    refine A_T27 (hT _ h_M_65) ?_
    try dsimp only
    refine A_chk (fun hchk => ?_)
    refine A_ltJ (wT3 _ _ _ h_M_65) (fun M_71 h_M_71 => ?_)
    refine A_T27 (hT _ h_M_71) ?_
    try dsimp only
    refine A_ltJ (wT0_3 _ _ h_M_71) (fun M_75 h_M_75 => ?_)
    exact A_some h_M_75
  ·
    exact A_some h_M_41
theorem fx_N_readWish {J : Mem → Prop} {T0 : Nat} {M : Mem} (hT : ∀ M, J M → M 27 16 = (T0 : Int))  (w40_3 : ∀ M v, J M → J (up M 40 3 v)) (w40_5 : ∀ M v, J M → J (up M 40 5 v)) (w40_4 : ∀ M v, J M → J (up M 40 4 v)) (w40_7 : ∀ M v, J M → J (up M 40 7 v)) (w40_8 : ∀ M v, J M → J (up M 40 8 v)) (w40_9 : ∀ M v, J M → J (up M 40 9 v)) (w40_6 : ∀ M v, J M → J (up M 40 6 v)) (wT7 : ∀ M k v, J M → J (up M (T0 + 7) k v)) (wT0_4 : ∀ M v, J M → J (up M T0 4 v)) (h_M : J M) : A J (N_readWish M) := by
  unfold N_readWish
  refine A_T27 (hT _ h_M) ?_
  try dsimp only
  refine A_bT (fun x => ?_)
  try dsimp only
  refine A_bind (fx_N_begin hT w40_3 w40_5 w40_4 w40_7 w40_8 w40_9 w40_6 h_M) ?_
  rintro M_9 h_M_9
  try dsimp only at h_M_9
  try dsimp only
  refine A_bind (fx_N_seePerson hT w40_4 w40_8 w40_9 h_M_9) ?_
  rintro ⟨r_10, M_11⟩ h_M_11
  try dsimp only at h_M_11
  try dsimp only
  refine A_bind (fx_K_pass hT w40_3 w40_5 w40_4 w40_7 w40_8 w40_9 w40_6 h_M_11) ?_
  rintro M_12 h_M_12
  try dsimp only at h_M_12
  try dsimp only
  refine A_bind (fx_N_seesName hT w40_4 w40_8 w40_9 h_M_12) ?_
  rintro ⟨r_13, M_14⟩ h_M_14
  try dsimp only at h_M_14
  try dsimp only
  refine A_bT (fun x => ?_)
  try dsimp only
  refine A_bind (J := J) ?_ ?_
  ·
    refine A_ite (fun _ => ?_) (fun _ => ?_)
    ·
      refine A_bind (fx_K_fail hT w40_4 w40_8 w40_9 h_M_14) ?_
      rintro M_25 h_M_25
      try dsimp only at h_M_25
      try dsimp only
      exact A_some h_M_25
    ·
      refine A_bT (fun x => ?_)
      try dsimp only
      refine A_ite (fun _ => ?_) (fun _ => ?_)
      ·
        refine A_bind (fx_K_fail hT w40_4 w40_8 w40_9 h_M_14) ?_
        rintro M_36 h_M_36
        try dsimp only at h_M_36
        try dsimp only
        exact A_some h_M_36
      ·
        exact A_some h_M_14
  rintro M_21 h_M_21
  try dsimp only at h_M_21
  try dsimp only
  refine A_bind (fx_K_pass hT w40_3 w40_5 w40_4 w40_7 w40_8 w40_9 w40_6 h_M_21) ?_
  rintro M_38 h_M_38
  try dsimp only at h_M_38
  try dsimp only
  refine A_bind (fx_K_expect hT w40_3 w40_5 w40_4 w40_7 w40_8 w40_9 w40_6 h_M_38) ?_
  rintro M_39 h_M_39
  try dsimp only at h_M_39
  try dsimp only
  refine A_bind (fx_N_readSmall hT w40_4 w40_8 w40_9 w40_3 w40_5 w40_7 w40_6 h_M_39) ?_
  rintro ⟨r_40, M_41⟩ h_M_41
  try dsimp only at h_M_41
  try dsimp only
  refine A_bind (fx_K_expect hT w40_3 w40_5 w40_4 w40_7 w40_8 w40_9 w40_6 h_M_41) ?_
  rintro M_42 h_M_42
  try dsimp only at h_M_42
  try dsimp only
  refine A_ite (fun _ => ?_) (fun _ => ?_)
  ·
    refine A_T27 (hT _ h_M_42) ?_
    try dsimp only
    refine A_chk (fun hchk => ?_)
    refine A_ltJ (wT7 _ _ _ h_M_42) (fun M_48 h_M_48 => ?_)
    refine A_T27 (hT _ h_M_48) ?_
    try dsimp only
    refine A_ltJ (wT0_4 _ _ h_M_48) (fun M_52 h_M_52 => ?_)
    exact A_some h_M_52
  ·
    exact A_some h_M_42
theorem fx_N_readSum_b7 {J : Mem → Prop} {T0 : Nat} (hT : ∀ M, J M → M 27 16 = (T0 : Int)) {rec_ : Int → Mem → Option (Mem)} {depth : Int} (w40_3 : ∀ M v, J M → J (up M 40 3 v)) (w40_5 : ∀ M v, J M → J (up M 40 5 v)) (w40_4 : ∀ M v, J M → J (up M 40 4 v)) (w40_7 : ∀ M v, J M → J (up M 40 7 v)) (w40_8 : ∀ M v, J M → J (up M 40 8 v)) (w40_9 : ∀ M v, J M → J (up M 40 9 v)) (w40_6 : ∀ M v, J M → J (up M 40 6 v)) (w29 : ∀ M k v, J M → J (up M 29 k v)) (w28_1 : ∀ M v, J M → J (up M 28 1 v)) (hrec : ∀ (y0 : Int) (M : Mem), J M → A J (rec_ y0 M)) : ∀ x, (fun r => J r.2) x → A (sK (fun r => J r.2) J) (N_readSum_b7 rec_ depth x) := by
  rintro ⟨l2_2, M_3⟩ h_M_3
  try dsimp only at h_M_3
  unfold N_readSum_b7
  try dsimp only
  refine A_ite (fun _ => ?_) (fun _ => ?_)
  ·
    refine A_ite (fun _ => ?_) (fun _ => ?_)
    ·
      refine A_lt (fun l3_11 => ?_)
      refine A_bind (fx_K_pass hT w40_3 w40_5 w40_4 w40_7 w40_8 w40_9 w40_6 h_M_3) ?_
      rintro M_12 h_M_12
      try dsimp only at h_M_12
      try dsimp only
      refine A_bind (hrec _ _ h_M_12) ?_
      rintro M_13 h_M_13
      try dsimp only at h_M_13
      try dsimp only
      refine A_bind (fx_S_add hT w29 w28_1 h_M_13) ?_
      rintro M_14 h_M_14
      try dsimp only at h_M_14
      try dsimp only
      refine A_lt (fun l2_15 => ?_)
      exact A_some h_M_14
    ·
      exact A_some h_M_3
  ·
    exact A_some h_M_3
theorem fx_N_readSum {J : Mem → Prop} {T0 : Nat} {M : Mem} (hT : ∀ M, J M → M 27 16 = (T0 : Int)) {rec_ : Int → Mem → Option (Mem)} {depth : Int} (w40_3 : ∀ M v, J M → J (up M 40 3 v)) (w40_5 : ∀ M v, J M → J (up M 40 5 v)) (w40_4 : ∀ M v, J M → J (up M 40 4 v)) (w40_7 : ∀ M v, J M → J (up M 40 7 v)) (w40_8 : ∀ M v, J M → J (up M 40 8 v)) (w40_9 : ∀ M v, J M → J (up M 40 9 v)) (w40_6 : ∀ M v, J M → J (up M 40 6 v)) (w29 : ∀ M k v, J M → J (up M 29 k v)) (w28_1 : ∀ M v, J M → J (up M 28 1 v)) (hrec : ∀ (y0 : Int) (M : Mem), J M → A J (rec_ y0 M)) (h_M : J M) : A J (N_readSum rec_ depth M) := by
  unfold N_readSum
  refine A_bind (hrec _ _ h_M) ?_
  rintro M_1 h_M_1
  try dsimp only at h_M_1
  try dsimp only
  refine A_bind (J := J) (A_it (I := (fun r => J r.2)) (fun x hx => fx_N_readSum_b7 hT w40_3 w40_5 w40_4 w40_7 w40_8 w40_9 w40_6 w29 w28_1 hrec x hx) h_M_1) ?_
  rintro M_10 h_M_10
  try dsimp only at h_M_10
  try dsimp only
  exact A_some h_M_10
theorem fx_N_readAny {J : Mem → Prop} {T0 : Nat} {M : Mem} (hT : ∀ M, J M → M 27 16 = (T0 : Int)) {rec_ : Int → Mem → Option (Mem)} {depth : Int} (w40_3 : ∀ M v, J M → J (up M 40 3 v)) (w40_5 : ∀ M v, J M → J (up M 40 5 v)) (w40_4 : ∀ M v, J M → J (up M 40 4 v)) (w40_7 : ∀ M v, J M → J (up M 40 7 v)) (w40_8 : ∀ M v, J M → J (up M 40 8 v)) (w40_9 : ∀ M v, J M → J (up M 40 9 v)) (w40_6 : ∀ M v, J M → J (up M 40 6 v)) (w29 : ∀ M k v, J M → J (up M 29 k v)) (w28_1 : ∀ M v, J M → J (up M 28 1 v)) (hrec : ∀ (y0 : Int) (M : Mem), J M → A J (rec_ y0 M)) (h_M : J M) : A J (N_readAny rec_ depth M) := by
  unfold N_readAny
  refine A_bind (fx_N_readSum hT w40_3 w40_5 w40_4 w40_7 w40_8 w40_9 w40_6 w29 w28_1 hrec h_M) ?_
  rintro M_1 h_M_1
  try dsimp only at h_M_1
  try dsimp only
  refine A_lt (fun l2_2 => ?_)
  refine A_ite (fun _ => ?_) (fun _ => ?_)
  ·
    refine A_bind (fx_K_pass hT w40_3 w40_5 w40_4 w40_7 w40_8 w40_9 w40_6 h_M_1) ?_
    rintro M_3 h_M_3
    try dsimp only at h_M_3
    try dsimp only
    refine A_bind (fx_N_readSum hT w40_3 w40_5 w40_4 w40_7 w40_8 w40_9 w40_6 w29 w28_1 hrec h_M_3) ?_
    rintro M_4 h_M_4
    try dsimp only at h_M_4
    try dsimp only
    refine A_bind (fx_S_add hT w29 w28_1 h_M_4) ?_
    rintro M_5 h_M_5
    try dsimp only at h_M_5
    try dsimp only
    exact A_some h_M_5
  ·
    exact A_some h_M_1
theorem fx_N_readF_b7 {J : Mem → Prop} {T0 : Nat} (hT : ∀ M, J M → M 27 16 = (T0 : Int)) {rec_ : Int → Mem → Option (Mem)} {depth : Int} (w40_3 : ∀ M v, J M → J (up M 40 3 v)) (w40_5 : ∀ M v, J M → J (up M 40 5 v)) (w40_4 : ∀ M v, J M → J (up M 40 4 v)) (w40_7 : ∀ M v, J M → J (up M 40 7 v)) (w40_8 : ∀ M v, J M → J (up M 40 8 v)) (w40_9 : ∀ M v, J M → J (up M 40 9 v)) (w40_6 : ∀ M v, J M → J (up M 40 6 v)) (w29 : ∀ M k v, J M → J (up M 29 k v)) (w28_1 : ∀ M v, J M → J (up M 28 1 v)) (hrec : ∀ (y0 : Int) (M : Mem), J M → A J (rec_ y0 M)) : ∀ x, (fun r => J r.2) x → A (sK (fun r => J r.2) J) (N_readF_b7 rec_ depth x) := by
  rintro ⟨l2_2, M_3⟩ h_M_3
  try dsimp only at h_M_3
  unfold N_readF_b7
  try dsimp only
  refine A_ite (fun _ => ?_) (fun _ => ?_)
  ·
    refine A_bind (fx_K_pass hT w40_3 w40_5 w40_4 w40_7 w40_8 w40_9 w40_6 h_M_3) ?_
    rintro M_11 h_M_11
    try dsimp only at h_M_11
    try dsimp only
    refine A_bind (fx_N_readAny hT w40_3 w40_5 w40_4 w40_7 w40_8 w40_9 w40_6 w29 w28_1 hrec h_M_11) ?_
    rintro M_12 h_M_12
    try dsimp only at h_M_12
    try dsimp only
    refine A_bind (fx_S_add hT w29 w28_1 h_M_12) ?_
    rintro M_13 h_M_13
    try dsimp only at h_M_13
    try dsimp only
    refine A_lt (fun l2_14 => ?_)
    exact A_some h_M_13
  ·
    exact A_some h_M_3
theorem fx_N_readF {J : Mem → Prop} {T0 : Nat} {M : Mem} (hT : ∀ M, J M → M 27 16 = (T0 : Int)) {rec_ : Int → Mem → Option (Mem)} {depth : Int} (w40_3 : ∀ M v, J M → J (up M 40 3 v)) (w40_5 : ∀ M v, J M → J (up M 40 5 v)) (w40_4 : ∀ M v, J M → J (up M 40 4 v)) (w40_7 : ∀ M v, J M → J (up M 40 7 v)) (w40_8 : ∀ M v, J M → J (up M 40 8 v)) (w40_9 : ∀ M v, J M → J (up M 40 9 v)) (w40_6 : ∀ M v, J M → J (up M 40 6 v)) (w29 : ∀ M k v, J M → J (up M 29 k v)) (w28_1 : ∀ M v, J M → J (up M 28 1 v)) (hrec : ∀ (y0 : Int) (M : Mem), J M → A J (rec_ y0 M)) (h_M : J M) : A J (N_readF rec_ depth M) := by
  unfold N_readF
  refine A_bind (fx_N_readAny hT w40_3 w40_5 w40_4 w40_7 w40_8 w40_9 w40_6 w29 w28_1 hrec h_M) ?_
  rintro M_1 h_M_1
  try dsimp only at h_M_1
  try dsimp only
  refine A_bind (J := J) (A_it (I := (fun r => J r.2)) (fun x hx => fx_N_readF_b7 hT w40_3 w40_5 w40_4 w40_7 w40_8 w40_9 w40_6 w29 w28_1 hrec x hx) h_M_1) ?_
  rintro M_10 h_M_10
  try dsimp only at h_M_10
  try dsimp only
  exact A_some h_M_10
theorem fx_N_readPart_s {J : Mem → Prop} {T0 : Nat} {M : Mem} (hT : ∀ M, J M → M 27 16 = (T0 : Int)) {rec_ : Int → Mem → Option (Mem)} {depth : Int} (w40_4 : ∀ M v, J M → J (up M 40 4 v)) (w40_8 : ∀ M v, J M → J (up M 40 8 v)) (w40_9 : ∀ M v, J M → J (up M 40 9 v)) (wT0_5 : ∀ M v, J M → J (up M T0 5 v)) (w40_3 : ∀ M v, J M → J (up M 40 3 v)) (w40_5 : ∀ M v, J M → J (up M 40 5 v)) (w40_7 : ∀ M v, J M → J (up M 40 7 v)) (w40_6 : ∀ M v, J M → J (up M 40 6 v)) (w29 : ∀ M k v, J M → J (up M 29 k v)) (w28_1 : ∀ M v, J M → J (up M 28 1 v)) (hrec : ∀ (y0 : Int) (M : Mem), J M → A J (rec_ y0 M)) (h_M : J M) : A J (N_readPart_s rec_ depth M) := by
  unfold N_readPart_s
  refine A_lt (fun l2_1 => ?_)
  refine A_bT (fun x => ?_)
  try dsimp only
  refine A_bT (fun x => ?_)
  try dsimp only
  refine A_bind (fx_N_takesUnit hT w40_4 w40_8 w40_9 wT0_5 h_M) ?_
  rintro ⟨r_28, M_29⟩ h_M_29
  try dsimp only at h_M_29
  try dsimp only
  refine A_ite (fun _ => ?_) (fun _ => ?_)
  ·
    exact A_some h_M_29
  ·
    refine A_ite (fun _ => ?_) (fun _ => ?_)
    ·
      refine A_bind (fx_K_pass hT w40_3 w40_5 w40_4 w40_7 w40_8 w40_9 w40_6 h_M_29) ?_
      rintro M_30 h_M_30
      try dsimp only at h_M_30
      try dsimp only
      refine A_bind (fx_N_readF hT w40_3 w40_5 w40_4 w40_7 w40_8 w40_9 w40_6 w29 w28_1 hrec h_M_30) ?_
      rintro M_31 h_M_31
      try dsimp only at h_M_31
      try dsimp only
      refine A_bind (fx_K_expect hT w40_3 w40_5 w40_4 w40_7 w40_8 w40_9 w40_6 h_M_31) ?_
      rintro M_32 h_M_32
      try dsimp only at h_M_32
      try dsimp only
      exact A_some h_M_32
    ·
      refine A_bT (fun x => ?_)
      try dsimp only
      refine A_bind (fx_S_add hT w29 w28_1 h_M_29) ?_
      rintro M_38 h_M_38
      try dsimp only at h_M_38
      try dsimp only
      refine A_bind (fx_K_pass hT w40_3 w40_5 w40_4 w40_7 w40_8 w40_9 w40_6 h_M_38) ?_
      rintro M_39 h_M_39
      try dsimp only at h_M_39
      try dsimp only
      exact A_some h_M_39
theorem fx_N_readPart {J : Mem → Prop} {T0 : Nat} (hT : ∀ M, J M → M 27 16 = (T0 : Int)) (w40_4 : ∀ M v, J M → J (up M 40 4 v)) (w40_8 : ∀ M v, J M → J (up M 40 8 v)) (w40_9 : ∀ M v, J M → J (up M 40 9 v)) (wT0_5 : ∀ M v, J M → J (up M T0 5 v)) (w40_3 : ∀ M v, J M → J (up M 40 3 v)) (w40_5 : ∀ M v, J M → J (up M 40 5 v)) (w40_7 : ∀ M v, J M → J (up M 40 7 v)) (w40_6 : ∀ M v, J M → J (up M 40 6 v)) (w29 : ∀ M k v, J M → J (up M 29 k v)) (w28_1 : ∀ M v, J M → J (up M 28 1 v)) : ∀ (d : Nat) (x0 : Int) {M : Mem}, J M → A J (N_readPart d x0 M)
  | 0, _, _, _ => A_none
  | d + 1, _, _, h => fx_N_readPart_s hT w40_4 w40_8 w40_9 wT0_5 w40_3 w40_5 w40_7 w40_6 w29 w28_1 (fun _ _ h => fx_N_readPart hT w40_4 w40_8 w40_9 wT0_5 w40_3 w40_5 w40_7 w40_6 w29 w28_1 d _ h) h
theorem fx_N_readLaw {J : Mem → Prop} {T0 : Nat} {M : Mem} (hT : ∀ M, J M → M 27 16 = (T0 : Int))  (w40_3 : ∀ M v, J M → J (up M 40 3 v)) (w40_5 : ∀ M v, J M → J (up M 40 5 v)) (w40_4 : ∀ M v, J M → J (up M 40 4 v)) (w40_7 : ∀ M v, J M → J (up M 40 7 v)) (w40_8 : ∀ M v, J M → J (up M 40 8 v)) (w40_9 : ∀ M v, J M → J (up M 40 9 v)) (w40_6 : ∀ M v, J M → J (up M 40 6 v)) (w27_13 : ∀ M v, J M → J (up M 27 13 v)) (w27_11 : ∀ M v, J M → J (up M 27 11 v)) (w29 : ∀ M k v, J M → J (up M 29 k v)) (w28_1 : ∀ M v, J M → J (up M 28 1 v)) (wT0_5 : ∀ M v, J M → J (up M T0 5 v)) (w27_12 : ∀ M v, J M → J (up M 27 12 v)) (h_M : J M) : A J (N_readLaw M) := by
  unfold N_readLaw
  refine A_bT (fun x => ?_)
  try dsimp only
  refine A_bind (fx_N_begin hT w40_3 w40_5 w40_4 w40_7 w40_8 w40_9 w40_6 h_M) ?_
  rintro M_6 h_M_6
  try dsimp only at h_M_6
  try dsimp only
  refine A_ltJ (w27_13 _ _ h_M_6) (fun M_7 h_M_7 => ?_)
  refine A_ltJ (w27_11 _ _ h_M_7) (fun M_8 h_M_8 => ?_)
  refine A_bind (fx_N_readF hT w40_3 w40_5 w40_4 w40_7 w40_8 w40_9 w40_6 w29 w28_1 (fun x0 M h => fx_N_readPart hT w40_4 w40_8 w40_9 wT0_5 w40_3 w40_5 w40_7 w40_6 w29 w28_1 10 _ h) h_M_8) ?_
  rintro M_9 h_M_9
  try dsimp only at h_M_9
  try dsimp only
  refine A_ltJ (w27_12 _ _ h_M_9) (fun M_10 h_M_10 => ?_)
  refine A_bind (fx_K_expect hT w40_3 w40_5 w40_4 w40_7 w40_8 w40_9 w40_6 h_M_10) ?_
  rintro M_11 h_M_11
  try dsimp only at h_M_11
  try dsimp only
  exact A_some h_M_11
theorem fx_N_readInto_b40 {J : Mem → Prop} {T0 : Nat} (hT : ∀ M, J M → M 27 16 = (T0 : Int))  (w40_3 : ∀ M v, J M → J (up M 40 3 v)) (w40_5 : ∀ M v, J M → J (up M 40 5 v)) (w40_4 : ∀ M v, J M → J (up M 40 4 v)) (w40_7 : ∀ M v, J M → J (up M 40 7 v)) (w40_8 : ∀ M v, J M → J (up M 40 8 v)) (w40_9 : ∀ M v, J M → J (up M 40 9 v)) (w40_6 : ∀ M v, J M → J (up M 40 6 v)) (w32 : ∀ M k v, J M → J (up M 32 k v)) (wT0_0 : ∀ M v, J M → J (up M T0 0 v)) (w33 : ∀ M k v, J M → J (up M 33 k v)) (wT1 : ∀ M k v, J M → J (up M (T0 + 1) k v)) (wT2 : ∀ M k v, J M → J (up M (T0 + 2) k v)) (wT0_1 : ∀ M v, J M → J (up M T0 1 v)) (w27_14 : ∀ M v, J M → J (up M 27 14 v)) (w27_15 : ∀ M v, v = 0 ∨ v = 1 → J M → J (up M 27 15 v)) (w29 : ∀ M k v, J M → J (up M 29 k v)) (w28_1 : ∀ M v, J M → J (up M 28 1 v)) (wT0_5 : ∀ M v, J M → J (up M T0 5 v)) (w34 : ∀ M k v, J M → J (up M 34 k v)) (w35 : ∀ M k v, J M → J (up M 35 k v)) (w36 : ∀ M k v, J M → J (up M 36 k v)) (w37 : ∀ M k v, J M → J (up M 37 k v)) (wT0_2 : ∀ M v, J M → J (up M T0 2 v)) (w38 : ∀ M k v, J M → J (up M 38 k v)) (w39 : ∀ M k v, J M → J (up M 39 k v)) (w27_10 : ∀ M v, J M → J (up M 27 10 v)) (wT4 : ∀ M k v, J M → J (up M (T0 + 4) k v)) (wT5 : ∀ M k v, J M → J (up M (T0 + 5) k v)) (wT6 : ∀ M k v, J M → J (up M (T0 + 6) k v)) (wT3 : ∀ M k v, J M → J (up M (T0 + 3) k v)) (wT0_3 : ∀ M v, J M → J (up M T0 3 v)) (wT7 : ∀ M k v, J M → J (up M (T0 + 7) k v)) (wT0_4 : ∀ M v, J M → J (up M T0 4 v)) (w27_13 : ∀ M v, J M → J (up M 27 13 v)) (w27_11 : ∀ M v, J M → J (up M 27 11 v)) (w27_12 : ∀ M v, J M → J (up M 27 12 v)) : ∀ x, (fun r => J r.2) x → A (sK (fun r => J r.2) J) (N_readInto_b40 x) := by
  rintro ⟨l3_10, M_11⟩ h_M_11
  try dsimp only at h_M_11
  unfold N_readInto_b40
  try dsimp only
  refine A_bT (fun x => ?_)
  try dsimp only
  refine A_ite (fun _ => ?_) (fun _ => ?_)
  ·
    refine A_bind (J := J) ?_ ?_
    ·
      refine A_ite (fun _ => ?_) (fun _ => ?_)
      ·
        refine A_bind (fx_N_readFact hT w40_3 w40_5 w40_4 w40_7 w40_8 w40_9 w40_6 w32 wT0_0 h_M_11) ?_
        rintro M_29 h_M_29
        try dsimp only at h_M_29
        try dsimp only
        exact A_some h_M_29
      ·
        refine A_ite (fun _ => ?_) (fun _ => ?_)
        ·
          refine A_bind (fx_N_readPerson hT w40_3 w40_5 w40_4 w40_7 w40_8 w40_9 w40_6 w33 wT1 wT2 wT0_1 h_M_11) ?_
          rintro M_31 h_M_31
          try dsimp only at h_M_31
          try dsimp only
          exact A_some h_M_31
        ·
          refine A_ite (fun _ => ?_) (fun _ => ?_)
          ·
            refine A_bind (fx_N_readRow hT w40_3 w40_5 w40_4 w40_7 w40_8 w40_9 w40_6 w27_14 w27_15 w29 w28_1 wT0_5 w34 w35 w36 w37 wT0_2 h_M_11) ?_
            rintro M_33 h_M_33
            try dsimp only at h_M_33
            try dsimp only
            exact A_some h_M_33
          ·
            refine A_ite (fun _ => ?_) (fun _ => ?_)
            ·
              refine A_bind (fx_N_readAlways hT w40_3 w40_5 w40_4 w40_7 w40_8 w40_9 w40_6 w27_14 w29 w28_1 wT0_5 w27_15 w38 w39 w27_10 h_M_11) ?_
              rintro M_35 h_M_35
              try dsimp only at h_M_35
              try dsimp only
              exact A_some h_M_35
            ·
              refine A_ite (fun _ => ?_) (fun _ => ?_)
              ·
                refine A_bind (fx_N_readTie hT w40_3 w40_5 w40_4 w40_7 w40_8 w40_9 w40_6 wT4 wT5 wT6 wT3 wT0_3 h_M_11) ?_
                rintro M_37 h_M_37
                try dsimp only at h_M_37
                try dsimp only
                exact A_some h_M_37
              ·
                refine A_ite (fun _ => ?_) (fun _ => ?_)
                ·
                  refine A_bind (fx_N_readWish hT w40_3 w40_5 w40_4 w40_7 w40_8 w40_9 w40_6 wT7 wT0_4 h_M_11) ?_
                  rintro M_39 h_M_39
                  try dsimp only at h_M_39
                  try dsimp only
                  exact A_some h_M_39
                ·
                  refine A_ite (fun _ => ?_) (fun _ => ?_)
                  ·
                    refine A_bind (fx_N_readLaw hT w40_3 w40_5 w40_4 w40_7 w40_8 w40_9 w40_6 w27_13 w27_11 w29 w28_1 wT0_5 w27_12 h_M_11) ?_
                    rintro M_41 h_M_41
                    try dsimp only at h_M_41
                    try dsimp only
                    exact A_some h_M_41
                  ·
                    refine A_bind (fx_K_fail hT w40_4 w40_8 w40_9 h_M_11) ?_
                    rintro M_43 h_M_43
                    try dsimp only at h_M_43
                    try dsimp only
                    exact A_some h_M_43
    rintro M_25 h_M_25
    try dsimp only at h_M_25
    try dsimp only
    refine A_lt (fun l3_45 => ?_)
    exact A_some h_M_25
  ·
    exact A_some h_M_11
