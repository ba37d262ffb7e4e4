/-! THE CLAIM OUT OF ONE WALK OF THE LAW'S BODY. Your part is whole_start (and what it stands on); all else here is the same for every law, but numbers. -/
def R_law : String := "LieOfTwoLaw"
def lw_P (b : Addr) (xs : List Int32) (args : Array Value) (s : State) : Prop := args = #[.ref b] ∧ s.IntsAt b xs ∧ xs.length ≤ 3072 ∧ (Jvm.Cond.and given_1 narrow_1).before args s = true
def lw_Q (_ : Array Value) (s : State) (o : Outcome) (t : State) : Prop := o = .returned (some (.int 1)) ∧ Framed s o t [] 600000 7302250
def lw_Z (below : List Frame) (a : Array Value) (s : State) : State → Prop := fun t => ∃ o, t.status = .running ∧ Ended t below o ∧ lw_Q a s o t
/-- the law's own end, with 1 on the stack, nothing written that was there before, its room as the claim has it -/
theorem lw_ret {p : Program} {l : Launch} {e : Env} {s : State} {m : MethodId} {below : List Frame} {meth : Method} {c : Code} {b : Nat} (hx : p.tables.exec = Jvm.exec) (hb : c.code = code) (hr : meth.sig.returnType = ret) (hlocks : meth.locks = false) {pc : Nat} {H : Heap} {ls : Array Slot} (hdg : decode code pc = .ok (.ireturn, 1)) : W p l e room_1 s m #[Value.ref b] below meth c H [] 600000 7302250 (lw_Z below #[Value.ref b] s) (F0 m pc ls [.int 1]) := by
  intro T hT X
  obtain ⟨fs, hret, hrun, hended, hW, hframe⟩ := X.leave (v := some (.int 1)) (hlocks := hlocks) (fun h => by rw [hr] at h; cases h)
  have hmeth' : T.vm.method? m = some meth := X.method'
  refine ⟨T.setFrames fs, ?_, .returned (some (.int 1)), hrun, hended, rfl, ⟨_, rfl⟩, hW, hframe⟩
  jvm_step X.here [X.here.top, hx, hb, hdg, hmeth', hr, ret, narrow_b1]
  (try refine ⟨rfl, ?_⟩); (try refine ⟨rfl, ?_⟩)
  first | (intro acts; rw [hret _ acts rfl rfl rfl]) | rw [hret _ _ rfl rfl rfl]
  exact Steps.refl _
/-- what holds at the law's entry: the machine, the code, the tables' words (any of lw_tbl by 'hts w (by decide +kernel)'), the script of L ints xs at the cell b, what the Statement gives of the start (any of its parts by flat_of_before) -/
def lw_At (p : Program) (s : State) (m : MethodId) (meth : Method) (c : Code) (b L : Nat) (xs : Nat → Int32) : Prop :=
  p.tables.exec = Jvm.exec ∧ c.code = code ∧ meth.sig.returnType = ret ∧ c.maxLocals = 4 ∧ s.vm.findClass R_law = some m.cls ∧ (∀ w ∈ lw_tbl, w.before #[Value.ref b] s = true) ∧ va_X b L xs s s.heap ∧ b < s.heap.size ∧ meth.locks = false ∧ (Jvm.Cond.and given_1 narrow_1).before #[Value.ref b] s = true ∧ meth.name = "law"

set_option maxRecDepth 10000 in
theorem inst_all {ci : Nat} {q : vw_C} (h : cls[ci]? = some q) : Cond.instantiable q.1 q.2.2 ∈ lw_tbl := by
  match ci, h with
  | 0, h => cases h; exact (mT1 21 rfl)
  | 1, h => cases h; exact (mT1 29 rfl)
  | 2, h => cases h; exact (mT1 167 rfl)
  | 3, h => cases h; exact (mT1 140 rfl)
  | 4, h => cases h; exact (mT1 146 rfl)
  | 5, h => cases h; exact (mT2 76 rfl)
  | 6, h => cases h; exact (mT2 116 rfl)
  | 7, h => cases h; exact (mT2 149 rfl)
  | 8, h => cases h; exact (mT2 177 rfl)
  | 9, h => cases h; exact (mT2 204 rfl)
  | 10, h => cases h; exact (mT5 143 rfl)
  | k + 11, h => simp [cls] at h

theorem room_le {s : State} {pl : Platform} {r r' : Room} (h : s.hasRoom pl r = true) (h1 : r'.frames ≤ r.frames) (h2 : r'.cells ≤ r.cells) (h3 : r'.slots ≤ r.slots) (h4 : r'.locals ≤ r.locals) : s.hasRoom pl r' = true := by
  simp only [State.hasRoom, Bool.and_eq_true, decide_eq_true_eq] at h ⊢
  obtain ⟨⟨⟨⟨g1, g2⟩, g3⟩, g4⟩, g5⟩ := h
  refine ⟨⟨⟨⟨by omega, by omega, by omega, by omega, by omega, g2.2.2.2.2⟩, by omega⟩, by omega⟩, g5⟩
theorem W_room {p : Program} {l : Launch} {e : Env} {R R' : Room} {s : State} {m : MethodId} {args : Array Value} {below : List Frame} {meth : Method} {c : Code} {H : Heap} {locs : List Loc} {cells slots : Nat} {Q Q' : State → Prop} {g : JFrame} (h1 : R'.frames ≤ R.frames) (h2 : R'.cells ≤ R.cells) (h3 : R'.slots ≤ R.slots) (h4 : R'.locals ≤ R.locals) (hQ : ∀ t, Q' t → Q t)
    (k : W p l e R' s m args below meth c H locs cells slots Q' g) : W p l e R s m args below meth c H locs cells slots Q g := by
  intro T hT X
  obtain ⟨t, a, b⟩ := k T hT { X with room := room_le X.room h1 h2 h3 h4 }
  exact ⟨t, a, hQ t b⟩
def flW : List Cond := [Cond.arrayOf (.static "LieOfTwo" "FACT_BITS" "[J") .long, Cond.eq (.length (.static "LieOfTwo" "FACT_BITS" "[J")) (.int 6), Cond.isRef (.static "jdk/internal/util/Preconditions" "SIOOBE_FORMATTER" "Ljava/util/function/BiFunction;"), Cond.eq (.static "java/lang/String" "COMPACT_STRINGS" "Z") (.int 1), Cond.exactly (.string "LieOfTwo$Tokens" 23) "java/lang/String", Cond.eq (.field (.string "LieOfTwo$Tokens" 23) "java/lang/String" "coder" "B") (.int 0), Cond.arrayOf (.field (.string "LieOfTwo$Tokens" 23) "java/lang/String" "value" "[B") .byte, Cond.eq (.length (.field (.string "LieOfTwo$Tokens" 23) "java/lang/String" "value" "[B")) (.int 104)]
set_option maxRecDepth 100000 in
theorem fl_in : ∀ w ∈ flW, w ∈ flatC (Jvm.Cond.and given_1 narrow_1) := by decide +kernel
set_option maxRecDepth 100000 in
theorem fl_bits : ∀ j, j < 6 → Cond.eq (.elem (.static "LieOfTwo" "FACT_BITS" "[J") (.int (Int32.ofNat j))) (.long (fbit j)) ∈ flatC (Jvm.Cond.and given_1 narrow_1) := by decide +kernel
set_option maxRecDepth 100000 in
theorem fl_text : ∀ j, j < 104 → Cond.eq (.elem (.field (.string "LieOfTwo$Tokens" 23) "java/lang/String" "value" "[B") (.int (Int32.ofNat j))) (.int (keptB.getD j 0)) ∈ flatC (Jvm.Cond.and given_1 narrow_1) := by decide +kernel
def stW : List Cond := [Cond.laysStatic "LieOfTwo" "FACT_BITS" "[J", Cond.initialized "LieOfTwo", Cond.laysStatic "java/lang/String" "COMPACT_STRINGS" "Z", Cond.initialized "java/lang/String", Cond.laysStatic "jdk/internal/util/Preconditions" "SIOOBE_FORMATTER" "Ljava/util/function/BiFunction;", Cond.initialized "jdk/internal/util/Preconditions", Cond.arrayOver (.object "LieOfTwo$Sayings"), Cond.stringRef "LieOfTwo$Tokens" 23 keptT]
set_option maxRecDepth 100000 in
theorem st_in : ∀ w ∈ stW, w ∈ lw_tbl := by decide +kernel
theorem nest_on {w : Cond} (h : isNest w = true) : w.onTables = true := by
  cases w <;> first | rfl | (simp [isNest] at h)
set_option maxHeartbeats 4000000 in
/-- the statics at the start -/
theorem SG_start {s : State} {b : Nat} (hts : ∀ w ∈ lw_tbl, w.before #[Value.ref b] s = true) (hgv : (Jvm.Cond.and given_1 narrow_1).before #[Value.ref b] s = true) {A : Nat → Prop} (hA : ∀ a : Nat, a < s.heap.size → ¬ A a) : ∃ t0 t1 t2 : Nat, ∀ ρ : Nat → Nat, ρ 999 = t0 → ρ 998 = t1 → ρ 997 = t2 → SG ρ A s s.heap := by
  have hs := flat_of_before _ hgv
  have hf : ∀ (j : Nat) {w : Cond}, flW[j]? = some w → w.before #[Value.ref b] s = true := fun j w h => hs w (fl_in w (List.mem_of_getElem? h))
  have hw : ∀ (j : Nat) {w : Cond}, stW[j]? = some w → w.before #[Value.ref b] s = true := fun j w h => hts w (st_in w (List.mem_of_getElem? h))
  obtain ⟨t0, e0, T0⟩ := va_Tof (tm := .static "LieOfTwo" "FACT_BITS" "[J") (ty := .long) (N := 6) (f := fun j => .long (fbit j)) (by decide) (hf 0 rfl) (va_eqt (hf 1 rfl)) (fun j hj => va_eqtl (hs _ (fl_bits j hj))) hA
  have z0 : ∀ i : Nat, i < 1 → i = 0 := fun i h => by omega
  obtain ⟨adK, adV, hS, hK⟩ := vk_Sof (args := #[Value.ref b]) (s := s) (N := 1) (tm := fun _ => .string "LieOfTwo$Tokens" 23) (len := [104]) (byt := [keptB]) (A := A)
    (fun i hi => by rw [z0 i hi]; decide) (fun i _ => hf 4 rfl) (fun i _ => hf 5 rfl) (fun i _ => hf 6 rfl) (fun i hi => by rw [z0 i hi]; exact hf 7 rfl) (fun i hi j hj => by rw [z0 i hi] at hj ⊢; exact hs _ (fl_text j hj)) (fun i j hi hj h => absurd ((z0 i hi).trans (z0 j hj).symm) h) hA
  refine ⟨t0, adK 0, adV 0, fun ρ h9 h8 h7 => ?_⟩
  unfold SG
  rw [h9, h8, h7]
  refine ⟨va_Zref (hw 0 rfl) (hw 1 rfl) e0 hA, T0, vk_R.of (hw 7 rfl) (hK 0 (Nat.lt_succ_self 0)), ?_, va_Zof (hw 2 rfl) (hw 3 rfl) (va_eqi (hf 3 rfl)) hA, fun w hw' => va_Nw.of (nest_on (List.mem_filter.mp hw').2) (hts w (List.mem_filter.mp hw').1), va_AO.of (hw 6 rfl), va_Zqof (hw 4 rfl) (hw 5 rfl) (hf 2 rfl) hA⟩
  refine ⟨fun i hi => ?_, fun i j hi hj _ => (z0 i hi).trans (z0 j hj).symm⟩
  rw [z0 i hi]
  exact hS.1 0 (Nat.lt_succ_self 0)
theorem known_all {s : State} {b : Nat} (hts : ∀ w ∈ lw_tbl, w.before #[Value.ref b] s = true) : ∃ D : va_G, ∀ (k : Nat) (q : vw_C), cls[k]? = some q → u_Kn s q.1 q.2.1 q.2.2 (D.1 k) (D.2 k) := by
  have h : ∀ k : Nat, ∃ (cC : ClassId) (iS : Nat → Nat), ∀ q, cls[k]? = some q → u_Kn s q.1 q.2.1 q.2.2 cC iS := by
    intro k
    cases hk : cls[k]? with
    | none => exact ⟨0, fun _ => 0, fun q h => by cases h⟩
    | some q =>
      have hi : Cond.instantiable q.1 q.2.2 ∈ lw_tbl := inst_all hk
      obtain ⟨cC, iS, h⟩ := u_known (C := q.1) (T := q.2.1) (N := q.2.2) hts (cls_in hk) (hts _ hi)
      exact ⟨cC, iS, fun q' h' => by cases h'; exact h⟩
  exact ⟨(fun k => Classical.choose (h k), fun k => Classical.choose (Classical.choose_spec (h k))), fun k q hq => Classical.choose_spec (Classical.choose_spec (h k)) q hq⟩
theorem cum_ok : cumS 138 - cumS 0 ≤ 7302250 := by decide +kernel
set_option maxRecDepth 100000 in
set_option maxHeartbeats 4000000 in
theorem whole_start {p : Program} {e : Env} {s : State} {m : MethodId} {below : List Frame} {meth : Method} {c : Code} (l : Launch) (hflags : l.flags = flags0) {b L : Nat} {xs : Nat → Int32} (hL : L ≤ 3072) (C0 : lw_At p s m meth c b L xs) : W p l e room_1 s m #[Value.ref b] below meth c s.heap [] 0 0 (lw_Z below #[Value.ref b] s) (entryFrame m ([Value.ref b] : List Value).toArray 4) := by
  obtain ⟨hx, hb, hr, hml, hown, hts, hX, hbl, hlocks, hgv, hnm⟩ := id C0
  have hA : ∀ a : Nat, a < s.heap.size → ¬ (fun q : Nat => s.heap.size ≤ q) a := fun a h => Nat.not_le.mpr h
  obtain ⟨t0, t1, t2, hSG⟩ := SG_start hts hgv hA
  obtain ⟨D, hD⟩ := known_all hts
  have hl := lv_entry ([.ref b]) (n := 4) (lb rfl)
  rw [lg_entry_eq]
  generalize (lg_sl ([.ref b]) ++ List.replicate (4 - (lg_sl ([.ref b])).length) Slot.unset).toArray = ls at hl ⊢
  have hR := cr_L_law (Ls := L) (xs := xs) (by omega) (pure_law (xs := xs) hL)
  have hk := hR l D p e s m #[Value.ref b] below meth c s.heap ls [] (fun q => s.heap.size ≤ q)
    (fun q => if q = 999 then t0 else if q = 998 then t1 else if q = 997 then t2 else b) (fun q => if q = 999 then t0 else if q = 998 then t1 else if q = 997 then t2 else b) (fun _ => 0) (fun _ => 0)
    ⟨hx, hb, hml, hr, hlocks, hown, hnm, fun w hw => hts w (List.mem_filter.mp hw).1⟩
    ⟨hSG _ rfl rfl rfl, hX, hbl, Nat.not_le.mpr hbl⟩
    ⟨fun k q h => by simp [wsM] at h, ⟨fun i j p q h => by simp [wsM] at h, fun k q h => by simp [wsM] at h⟩, ⟨hD, fun k q h => by simp at h⟩, fun c ty len h1 h2 => by omega, fun c k h1 h2 => by omega, fun _ _ _ => rfl⟩
    va_S.rf (fun _ h => h) Ag.rf' ⟨Nat.le_refl _, Nat.zero_le _⟩ hl
  refine W_room (lb rfl) (lb rfl) ?_ (lb rfl) (fun t ht => ?_) hk
  · exact cum_ok
  · obtain ⟨o, h1, h2, ⟨⟨r, M, ρ, κ, h3, h4, -⟩, -⟩, L', ⟨h5, h6, h7⟩, h8⟩ := ht
    obtain ⟨v, rfl, hv⟩ := h4
    refine ⟨o, h1, h2, ?_, h5, h6, h7.weaken (fun y hy hlt => absurd hlt (Nat.not_lt.mpr (h8 y hy))) (lb rfl) cum_ok⟩
    have hv : v = 1 := hv
    subst hv
    exact h3
set_option maxHeartbeats 4000000 in
theorem lw_walk (l : Launch) (hflags : l.flags = flags0) (b : Addr) (xs : List Int32) : MetFree l x (headSpec (Jvm.Cond.code x code maxLocals ret :: tables_1) room_1) (lw_P b xs) (fun _ _ _ _ _ => True) lw_Q := by
  refine MetFree.of_bodyS (code := code) (maxLocals := maxLocals) (ret := ret) (by decide) ?_ ?_
  · intro args s m h hn
    obtain ⟨meth, c, h1, h2, h3, h4, h5, h6, -, -⟩ := Cond.code_spec hn (atoms_spec (ws := Jvm.Cond.code x code maxLocals ret :: tables_1) h _ List.mem_cons_self)
    exact ⟨meth, c, h1, h2, h3, h4, h5, h6⟩
  · intro p e s m args below meth c s₁ B hml0 hP _
    obtain ⟨rfl, hx, hbd, hgv⟩ := hP
    obtain ⟨scr, harrAt, hlist, hof, hsmall⟩ := hx
    obtain ⟨hcb, hkn, -, -⟩ := State.arrayAt?_spec harrAt
    have hown : s.vm.findClass R_law = some m.cls := findClass_of_methodNamed B.named
    have hts0 : ∀ c ∈ (Jvm.Cond.code x code maxLocals ret :: tables_1), c.before #[Value.ref b] s = true := atoms_spec (ws := Jvm.Cond.code x code maxLocals ret :: tables_1) B.pre
    have hts : ∀ w ∈ lw_tbl, w.before #[Value.ref b] s = true := k2_hts_sels lw_privs (fun w hw => hts0 w (List.mem_cons_of_mem _ hw)) lw_privs_ok
    have hml : c.maxLocals = 4 := B.maxLocals_eq (hts0 _ List.mem_cons_self)
    have X₀ : Stand p l e room_1 s m #[Value.ref b] below meth c s₁ [] 0 0 := Stand.of_body B
    have hh0 : s₁.heap = s.heap := by rw [B.state]; rfl
    have hsz : scr.slots.size = xs.length := by rw [← Array.length_toList, hlist, List.length_map]
    have hval : ∀ j : Nat, j < xs.length → scr.slots[j]? = some (.int (xs.getD j 0)) := fun j hj => by
      rw [← Array.getElem?_toList, hlist]
      simp [hj]
    have hbl : b < s.heap.size := (Array.getElem?_eq_some_iff.mp hcb).1
    have hX : va_X b xs.length (fun j => xs.getD j 0) s s.heap := ⟨scr, hcb, hof, hkn, hsz, hval⟩
    have K : W p l e room_1 s m #[Value.ref b] below meth c s₁.heap [] 0 0 (lw_Z below #[Value.ref b] s) (entryFrame m ([Value.ref b] : List Value).toArray 4) := by
      rw [hh0]
      exact whole_start l hflags hbd ⟨B.exec, B.bytes, B.returns, hml, hown, hts, hX, hbl, B.notSynchronized, hgv, (name_of_methodNamed B.named B.method).1⟩
    obtain ⟨t, a1, o, b1, b2, b3⟩ := K s₁ rfl X₀
    exact ⟨t, o, a1, b1, b2, b3⟩
theorem lw_pre_spec {args : Array Value} {s : State} (h : (Jvm.Cond.and given_1 narrow_1).before args s = true) (hr : rest_1_c.before args s = true) : ∃ (b : Addr) (xs : List Int32), lw_P b xs args s := by
  have hs := flat_of_before _ h
  have hq := flat_of_before _ hr
  have hc : (Cond.count 1).before args s = true := hs _ (by decide +kernel)
  have harr : (Cond.arrayOf (.arg 0) .int).before args s = true := hs _ (by decide +kernel)
  have hle : (Cond.le (.length (.arg 0)) (.int 3072)).before args s = true := hs _ (by decide +kernel)
  have hlen : (Cond.isInt (.length (.arg 0))).before args s = true := hq _ (by decide +kernel)
  have hall : (Cond.all (.arg 0) (.isInt (.elem (.arg 0) (.index 0)))).before args s = true := hq _ (by decide +kernel)
  obtain ⟨b, xs, hb, hx⟩ := State.ints_of_pre rfl harr hlen hall
  have hsm : xs.length < 2 ^ 31 := hx.choose_spec.2.2.2
  have hev : (Term.length (.arg 0)).eval args s none [] s = some (.int xs.length.toInt32) := hx.length_eval hb
  have hv := Cond.le_ints hev (show (Term.int 3072).eval args s none [] s = some (.int 3072) from rfl)
  have hd : xs.length.toInt32 ≤ 3072 := by
    simpa [Cond.before, Cond.holds, hv] using hle
  have hN : xs.length ≤ 3072 := (Int32.ofNat_le_ofNat hsm (by decide)).mp (show Int32.ofNat xs.length ≤ Int32.ofNat 3072 from hd)
  exact ⟨b, xs, Cond.one_arg hc (show args[0]? = some (.ref b) from hb), hx, hN, h⟩
theorem lw_comes (l : Launch) (hflags : l.flags = flags0) : Comes l x (Jvm.Cond.code x code maxLocals ret :: tables_1) room_1 (fun tb e args s => Calls_1 tb e args s ∧ rest_1 tb e args s ∧ Pre_1 tb e args s)
    (fun _ _ args s o t => lw_Q args s o t) := by
  intro p e ha hc hk s m args below hf hfit hheap happ hpre
  obtain ⟨b, xs, hP⟩ := lw_pre_spec hpre.2.2 hpre.2.1
  obtain ⟨k, o, h1, h2, h3, hQ⟩ := lw_walk l hflags b xs p e ha hc hk s m args below hf ((Spec.applies_iff_loose hf).mp happ).1 hP trivial
  exact ⟨k, o, h1, h2, h3, hQ⟩
theorem lw_frame {s t : State} {o : Outcome} {args : Array Value} (h : Framed s o t [] 600000 7302250) :
    Framed s o t (fieldLocs frame_1_writes args s ++ arrayLocs frame_1_arrays args s ++ staticLocs frame_1_statics s) 600000 7302250 := h
theorem lw_limb (L : Cond) (hL : ∀ (args : Array Value) (s t : State), L.after args s (.returned (some (.int 1))) t = true) :
    ArmFor flags0 classFile x code maxLocals ret World_1 tables_1 room_1 Calls_1 rest_1 Pre_1
      (fun tb e a s o t => postC L tb e a s o t ∧ Framed s o t (fieldLocs frame_1_writes a s ++ arrayLocs frame_1_arrays a s ++ staticLocs frame_1_statics s) 600000 7302250) := by
  intro l hflags _ _ p e ha hc hk s m args below hf hfit hheap happ hpre
  obtain ⟨k, o, h1, h2, h3, rfl, hF⟩ := lw_comes l hflags p e ha hc hk s m args below hf hfit hheap happ hpre
  exact ⟨k, _, h1, h2, h3, hL args s _, lw_frame hF⟩
theorem i_vc : Claimed_1_1 ∧ Claimed_1_2 := ⟨lw_limb limb_1_1 (fun args s t => by simp [limb_1_1, Cond.after, Cond.holds, Cond.value]), lw_limb limb_1_2 (fun args s t => Cond.after_iff.mpr (by
  first | (rw [show limb_1_2 = Cond.eq .result (.int 1) from rfl, Cond.eq_ints (x := 1) (y := 1) rfl rfl]; simp; done) | (simp [limb_1_2, Cond.value, Term.eval]; done)))⟩

