abbrev y_JP_checkIndex : MI := (⟨"jdk/internal/util/Preconditions", "checkIndex", "(IILjava/util/function/BiFunction;)I"⟩, prog_20_method_11_code, 3, some .int, none)
def t_JP_checkIndex : List (Nat × Instr × Nat) := [(0, (.iload_n 0), 1), (1, (.ifCond .lt 8), 3), (4, (.iload_n 0), 1), (5, (.iload_n 1), 1), (6, (.if_icmp .lt 10), 3), (16, (.iload_n 0), 1), (17, .ireturn, 1)]
theorem k_JP_checkIndex : t_JP_checkIndex.all (fun q => decide (decode y_JP_checkIndex.2.1 q.1 = .ok (q.2.1, q.2.2))) = true := by decide +kernel
abbrev y_JS_checkIndex : MI := (⟨"java/lang/String", "checkIndex", "(II)V"⟩, prog_16_method_155_code, 2, none, none)
def t_JS_checkIndex : List (Nat × Instr × Nat) := [(0, (.iload_n 0), 1), (1, (.iload_n 1), 1), (2, (.getstatic 1053), 3), (5, (.invokestatic 1059), 3), (8, .pop, 1), (9, .return_, 1)]
theorem k_JS_checkIndex : t_JS_checkIndex.all (fun q => decide (decode y_JS_checkIndex.2.1 q.1 = .ok (q.2.1, q.2.2))) = true := by decide +kernel
theorem chk_words : Cond.code y_JP_checkIndex.1 y_JP_checkIndex.2.1 3 (some .int) ∈ tbG ∧ Cond.static y_JP_checkIndex.1 ∈ tbG ∧ Cond.initialized y_JP_checkIndex.1.cls ∈ tbG ∧ Cond.methodLink "java/lang/String" 1059 y_JP_checkIndex.1 ∈ tbG ∧ Cond.fieldLink "java/lang/String" 1053 "jdk/internal/util/Preconditions" "SIOOBE_FORMATTER" "Ljava/util/function/BiFunction;" ∈ tbG ∧ Cond.code y_JS_checkIndex.1 y_JS_checkIndex.2.1 2 none ∈ tbG ∧ Cond.static y_JS_checkIndex.1 ∈ tbG ∧ Cond.initialized y_JS_checkIndex.1.cls ∈ tbG ∧ Cond.methodLink "java/lang/StringLatin1" 9 y_JS_checkIndex.1 ∈ tbG := by decide +kernel
def rmZ (a b : Nat) : Room := { frames := a, cells := 0, slots := 0, locals := b }
def qK (r : Option Value) : Array Value → State → Outcome → State → Prop := fun _ st oc t => oc = .returned r ∧ t.heap = st.heap
theorem wsY_G (y : MI) (h : Cond.code y.1 y.2.1 y.2.2.1 y.2.2.2.1 ∈ tbG) : GoodIn tbG (wsY y) := wsY_good (y := y) h
section PLAIN
variable {p : Program} {l : Launch} {e : Env} {R : Room} {s : State} {m : MethodId} {args : Array Value} {below : List Frame} {meth : Method} {c : Code} {H : Heap} {locs : List Loc} {cells slots : Nat} {Qt : State → Prop}
theorem call_pl {pc : Nat} {ls : Array Slot} {rest st0 : List Value} {a : Array Value} {r : Option Value}
    (hr : va_Run p l e R s m args below meth c H locs cells slots 0 0 (F0 m pc ls st0) rest (qK r a) (fun _ => False))
    (kk : W p l e R s m args below meth c H locs cells slots Qt (F0 m (pc + 3) ls (r.toList ++ rest))) : W p l e R s m args below meth c H locs cells slots Qt (F0 m pc ls st0) := by
  intro T hT X
  obtain ⟨v, st₀, t, T', L, h0, X', hL, e1, e2, ⟨hv, hh⟩, st⟩ := hr T hT X
  cases hv
  have hL0 : L = [] := by
    cases L with
    | nil => rfl
    | cons q L => exact (hL q List.mem_cons_self).elim
  subst hL0
  rw [List.append_nil] at X'
  obtain ⟨t2, a1, b1⟩ := kk T' (by rw [e1, hh, h0]) X'
  exact ⟨t2, st t2 a1, b1⟩
end PLAIN
theorem mp_checkIndex (l : Launch) {i len : Int} (h0 : 0 ≤ i) (h1 : i < len) (h2 : len ≤ 30000) {v : Value} (hv : v.category = 1) : Met l y_JP_checkIndex.1 (wsY y_JP_checkIndex) (rmZ 0 0) (va_Pc [.int (Int32.ofInt i), .int (Int32.ofInt len), v] (fun _ => True)) (qK (some (.int (Int32.ofInt i)))) 0 0 (fun _ => False) := by
  refine Met.ofW (cc := y_JP_checkIndex.2.1) (maxL := 3) (ret := some .int) (by decide) rfl ?_
  intro p e s m a below meth c s₁ BL hml hv2
  obtain ⟨rfl, -⟩ := hv2
  have hx := BL.exec
  have hb := BL.bytes
  have hl := lv_entry [.int (Int32.ofInt i), .int (Int32.ofInt len), v] (n := 3) (by cases v <;> first | exact lb rfl | (simp [Value.category] at hv))
  rw [lg_entry_eq]
  generalize (lg_sl [.int (Int32.ofInt i), .int (Int32.ofInt len), v] ++ List.replicate (3 - (lg_sl [.int (Int32.ofInt i), .int (Int32.ofInt len), v]).length) Slot.unset).toArray = ls at hl ⊢
  have t0 : (Int32.ofInt i).toInt = i := Int32.toInt_ofInt_of_le (by omega) (by omega)
  have t1 : (Int32.ofInt len).toInt = len := Int32.toInt_ofInt_of_le (by omega) (by omega)
  refine lv_iload_n hx hb (dc k_JP_checkIndex 0 rfl) rfl (lv_at hl 0 rfl) ?_
  refine lv_if_lt (tgt := 9) hx hb (dc k_JP_checkIndex 1 rfl) rfl (fun q => ?_) (fun _ => ?_)
  · rw [Int32.lt_iff_toInt_lt, t0] at q
    have : (0 : Int32).toInt = 0 := rfl
    omega
  refine lv_iload_n hx hb (dc k_JP_checkIndex 2 rfl) rfl (lv_at hl 0 rfl) ?_
  refine lv_iload_n hx hb (dc k_JP_checkIndex 3 rfl) rfl (lv_at hl 1 rfl) ?_
  refine lv_icmp_lt (tgt := 16) hx hb (dc k_JP_checkIndex 4 rfl) rfl (fun _ => ?_) (fun q => ?_)
  · refine lv_iload_n hx hb (dc k_JP_checkIndex 5 rfl) rfl (lv_at hl 0 rfl) ?_
    exact W.iret hx hb BL.returns (fun t ht _ => ⟨rfl, ht⟩) (fun q hq => by cases hq) (dc k_JP_checkIndex 6 rfl) BL.notSynchronized
  · exact absurd (by rw [Int32.lt_iff_toInt_lt, t0, t1]; exact h1) q
theorem mc_checkIndex (l : Launch) {i len : Int} (h0 : 0 ≤ i) (h1 : i < len) (h2 : len ≤ 30000) : Met l y_JS_checkIndex.1 (wsY y_JS_checkIndex) (rmZ 1 22) (va_Pc [.int (Int32.ofInt i), .int (Int32.ofInt len)] (fun U => va_Zq "jdk/internal/util/Preconditions" "SIOOBE_FORMATTER" "Ljava/util/function/BiFunction;" (fun _ => False) U U.heap)) (qK none) 0 0 (fun _ => False) := by
  refine Met.ofW (cc := y_JS_checkIndex.2.1) (maxL := 2) (ret := none) (by decide) rfl ?_
  intro p e s m a below meth c s₁ BL hml hv2
  obtain ⟨rfl, hZ⟩ := hv2
  have hx := BL.exec
  have hb := BL.bytes
  have hts := atoms_spec (ws := wsY y_JS_checkIndex) BL.pre
  have hT : ∀ w ∈ tbG, w.before _ s = true := fun w hw => hts w (List.mem_cons_of_mem _ hw)
  have hown := findClass_of_methodNamed BL.named
  have hl := lv_entry [.int (Int32.ofInt i), .int (Int32.ofInt len)] (n := 2) (lb rfl)
  rw [lg_entry_eq]
  generalize (lg_sl [.int (Int32.ofInt i), .int (Int32.ofInt len)] ++ List.replicate (2 - (lg_sl [.int (Int32.ofInt i), .int (Int32.ofInt len)]).length) Slot.unset).toArray = ls at hl ⊢
  refine lv_iload_n hx hb (dc k_JS_checkIndex 0 rfl) rfl (lv_at hl 0 rfl) ?_
  refine lv_iload_n hx hb (dc k_JS_checkIndex 1 rfl) rfl (lv_at hl 1 rfl) ?_
  have hS : va_S (fun _ => False) s.heap s.heap [] := va_S.rf
  have key : ∀ v : Value, v.category = 1 → W p l e (headSpec (wsY y_JS_checkIndex) (rmZ 1 22)).room s m [Value.int (Int32.ofInt i), Value.int (Int32.ofInt len)].toArray below meth c s.heap [] 0 0 (MQ below (qK none) [Value.int (Int32.ofInt i), Value.int (Int32.ofInt len)].toArray s 0 0 (fun _ => False)) (F0 m (0 + 1 + 1 + 3) ls [v, .int (Int32.ofInt len), .int (Int32.ofInt i)]) := by
    intro v hv
    have hr := va_runS (R := (headSpec (wsY y_JS_checkIndex) (rmZ 1 22)).room) (l := l) (e := e) (below := below) (meth := meth) (locs := []) (cells := 0) (slots := 0) (rest := []) (g := F0 m (0 + 1 + 1 + 3) ls [v, .int (Int32.ofInt len), .int (Int32.ofInt i)]) (As := [.int (Int32.ofInt i), .int (Int32.ofInt len), v]) ⟨hx, hb, hml, hown, hT⟩ (mp_checkIndex l h0 h1 h2 hv) ⟨callB_of 3 hT (wsY_G _ chk_words.1) rfl rfl rfl (hT _ chk_words.2.2.1) (hT _ chk_words.2.2.2.1) ⟨by decide, by decide, by decide +kernel⟩ ⟨lb rfl, lb rfl⟩, hT _ chk_words.2.1⟩ (H := s.heap) ⟨fun _ _ _ _ h => h, fun U _ _ => ⟨rfl, trivial⟩⟩ rfl rfl hl.1 rfl (lb rfl) (dc k_JS_checkIndex 3 rfl) ⟨lb rfl, lb rfl⟩
    refine call_pl hr ?_
    refine lv_pop hx hb (dc k_JS_checkIndex 4 rfl) rfl ?_
    exact W.vret hx hb BL.returns (fun t ht _ => ⟨rfl, ht⟩) (fun q hq => by cases hq) (dc k_JS_checkIndex 5 rfl) BL.notSynchronized
  rcases hZ with hZ | ⟨t, hZ⟩
  · exact va_gets hx hb hZ hS hown (hT _ chk_words.2.2.2.2.1) (fun _ z => z) (dc k_JS_checkIndex 2 rfl) (key _ rfl)
  · exact va_gets hx hb hZ hS hown (hT _ chk_words.2.2.2.2.1) (fun _ z => z) (dc k_JS_checkIndex 2 rfl) (key _ rfl)
section CHK
variable {y : MI} {B : BI} {Q : Option aV → Mem → Prop} {pc : Nat} {L : List (Nat × aV)} {E : Nat → Bool} {n : Nat} {M : Mem}
theorem R_chkIdx' {i len : Int} (S : List aV) (hy : y.1.cls = "java/lang/StringLatin1") (d : Dc y pc (.invokestatic 9) 3) (h0 : 0 ≤ i) (h1 : i < len) (h2 : len ≤ 30000) (hB1 : 2 ≤ B.1) (hB2 : 43 ≤ B.2.1) (hS8 : wid S ≤ 8) (kk : Rr y B Q (pc + 3) L S E n M) : Rr y B Q pc L (vI len :: vI i :: S) E n M := by
  intro l D p e s m args below meth c0 H ls locs A ρ0 ρ κ0 κ f g r sS hA ag hn hl
  have kk := kk l D p e s m args below meth c0 H ls locs A ρ0 ρ κ0 κ f g r sS hA ag hn hl
  have hT := f.2.2.2.2.2.2.2
  have hZ := g.1.2.2.2.2.2.2.2
  have h3 := cumS_mono hn.2
  have h4 := hn.2
  have hr := va_runS (l := l) (e := e) (below := below) (meth := meth) (locs := locs) (cells := n - B.2.2.1) (slots := cumS n - cumS B.2.2.1) (R := rmB B) (own := "java/lang/StringLatin1") (rest := S.map (cA ρ)) (g := F0 m pc ls (.int (Int32.ofInt len) :: .int (Int32.ofInt i) :: S.map (cA ρ))) (As := [.int (Int32.ofInt i), .int (Int32.ofInt len)]) ⟨f.1, f.2.1, f.2.2.1, by rw [← hy]; exact f.2.2.2.2.2.1, hT⟩ (mc_checkIndex l h0 h1 h2) ⟨callB_of 2 hT (wsY_G _ chk_words.2.2.2.2.2.1) rfl rfl rfl (hT _ chk_words.2.2.2.2.2.2.2.1) (hT _ chk_words.2.2.2.2.2.2.2.2) ⟨by decide, by decide, by decide +kernel⟩ ⟨hB1, hB2⟩, hT _ chk_words.2.2.2.2.2.2.1⟩ (H := H) ⟨fun a U g mk h => ⟨h.1, va_Zq.moved (u := U) (Vm.Alike.refl U.vm) h.2⟩, fun U hU hW => ⟨rfl, by
    show va_Zq _ _ _ _ U U.heap
    rw [hU]
    exact va_Zq.moved hW.alike (va_Zq.narrow (va_Zq.kept hZ sS.2.1) (fun _ h => h.elim))⟩⟩ rfl rfl hl.1 rfl (lv_room (by rw [catA]; exact hS8)) d ⟨by show n - B.2.2.1 + 0 ≤ B.2.2.2.1 - B.2.2.1; omega, by show cumS n - cumS B.2.2.1 + 0 ≤ cumS B.2.2.2.1 - cumS B.2.2.1; omega⟩
  exact call_pl hr kk
end CHK
