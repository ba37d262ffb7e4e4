theorem Ag.ref9 {n0 n : Nat} {ρ0 ρ : Nat → Nat} {κ0 κ : Nat → ClassId} (h : Ag n0 n ρ0 κ0 ρ κ) {A : Nat → Prop} {U : State} {H : Heap} (g : SG ρ0 A U H) : SG ρ A U H := g.at' h.1.2
theorem Rl.weak {D : va_G} {E : Nat → Bool} {ρ : Nat → Nat} {κ : Nat → ClassId} {n : Nat} {M : Mem} {A A' : Nat → Prop} {s : State} {H : Heap} (r : Rl D E ρ κ n M A s H) (h : ∀ q, A q → A' q) : Rl D E ρ κ n M A' s H :=
  ⟨r.1, r.2.1.weaken fun _ q _ z => h q.1 z, r.2.2⟩
theorem Rl.self {D : va_G} {E : Nat → Bool} {ρ : Nat → Nat} {κ : Nat → ClassId} {n sz : Nat} {M : Mem} {A : Nat → Prop} {s : State} {H : Heap} (r : Rl D E ρ κ n M A s H) : Rl D E ρ κ n M (va_A (wsM E ρ κ n M) sz) s H :=
  ⟨r.1, r.2.1.self, r.2.2⟩
theorem Rl.moved {D : va_G} {E : Nat → Bool} {ρ : Nat → Nat} {κ : Nat → ClassId} {n : Nat} {M : Mem} {A : Nat → Prop} {s U : State} {H : Heap} (hv : s.vm.Alike U.vm) (r : Rl D E ρ κ n M A s H) : Rl D E ρ κ n M A U H :=
  ⟨r.1, r.2.1, r.2.2.1.moved hv, fun c ty len h1 h2 h3 => ⟨arrOfT_moved hv (r.2.2.2.1 c ty len h1 h2 h3).1, (r.2.2.2.1 c ty len h1 h2 h3).2.moved hv⟩, r.2.2.2.2⟩
theorem wsM_free {D : va_G} {E : Nat → Bool} {ρ : Nat → Nat} {κ : Nat → ClassId} {n : Nat} {M : Mem} {A : Nat → Prop} {s : State} {H H0 : Heap} {locs : List Loc} (r : Rl D E ρ κ n M A s H) (hS : va_S A H0 H locs) (hA : ∀ q, H0.size ≤ q → A q) : ∀ q, va_A (wsM E ρ κ n M) H.size q → A q := by
  intro q h
  rcases h with ⟨k, e, h⟩ | h
  · exact r.2.1.2 k _ h
  · exact hA q (Nat.le_trans hS.1 h)
def wsY (y : MI) : List Cond := .code y.1 y.2.1 y.2.2.1 y.2.2.2.1 :: tbG
/-- a method's contract, of one start: it ends as Q says -/
def Mt (y : MI) (B : BI) (E : Nat → Bool) (args : List aV) (M : Mem) (Q : Option aV → Mem → Prop) : Prop :=
  ∀ (l : Launch) (D : va_G) (ρ : Nat → Nat) (κ : Nat → ClassId) (sz : Nat), Met l y.1 (wsY y) (rmB B) (va_Pc (args.map (cA ρ)) (fun U => U.heap.size = sz ∧ Rl D E ρ κ B.2.2.1 M (fun _ => True) U U.heap ∧ SG ρ (va_A (wsM E ρ κ B.2.2.1 M) sz) U U.heap))
    (Qx D B.2.2.2.2 B.2.2.1 B.2.2.2.1 ρ κ (va_A (wsM E ρ κ B.2.2.1 M) sz) Q) (B.2.2.2.1 - B.2.2.1) (cumS B.2.2.2.1 - cumS B.2.2.1) (va_A (wsM E ρ κ B.2.2.1 M) sz)
def argL : Nat → List aV → List (Nat × aV)
  | _, [] => []
  | i, v :: vs => (i, v) :: argL (if isJ v then i + 2 else i + 1) vs
theorem argL_map (ρ : Nat → Nat) : ∀ (i : Nat) (vs : List aV), lv_args i (vs.map (cA ρ)) = (argL i vs).map fun q => (q.1, cA ρ q.2)
  | _, [] => rfl
  | i, v :: vs => by
    have e : (if (cA ρ v).category = 2 then i + 2 else i + 1) = (if isJ v then i + 2 else i + 1) := by
      rcases v with a | a | a <;> rfl
    show (i, cA ρ v) :: lv_args (if (cA ρ v).category = 2 then i + 2 else i + 1) (vs.map (cA ρ)) = (i, cA ρ v) :: (argL (if isJ v then i + 2 else i + 1) vs).map _
    rw [e, argL_map ρ _ vs]
def wid : List aV → Nat
  | [] => 0
  | v :: vs => (if isJ v then 2 else 1) + wid vs
theorem wid_sl (ρ : Nat → Nat) : ∀ vs : List aV, (lg_sl (vs.map (cA ρ))).length = wid vs
  | [] => rfl
  | v :: vs => by
    have ih := wid_sl ρ vs
    rw [List.map_cons]
    have e : lg_sl (cA ρ v :: vs.map (cA ρ)) = (if (cA ρ v).category = 2 then [.val (cA ρ v), .second] else [.val (cA ρ v)]) ++ lg_sl (vs.map (cA ρ)) := by
      simp only [lg_sl, List.flatMap_cons]
    rw [e, List.length_append, ih]
    rcases v with a | a | a <;> rfl
theorem Mt.of {y : MI} {B : BI} {E : Nat → Bool} {args : List aV} {M : Mem} {Q : Option aV → Mem → Prop} (hy : plainName y.1.cls = true) (hw : wid args ≤ y.2.2.1) (hB : B.2.2.1 ≤ B.2.2.2.1) (hsc : y.2.2.2.2 = none)
    (h : Rr y B Q 0 (argL 0 args) [] E B.2.2.1 M) : Mt y B E args M Q := by
  intro l D ρ κ sz
  refine Met.ofW (cc := y.2.1) (maxL := y.2.2.1) (ret := y.2.2.2.1) hy rfl ?_
  intro p e s m a below meth c s₁ BL hml hv
  obtain ⟨rfl, hsz, hR, hG⟩ := hv
  have hts := atoms_spec (ws := wsY y) BL.pre
  have hf : Fx y p s m (args.map (cA ρ)).toArray meth c := ⟨BL.exec, BL.bytes, hml, BL.returns, BL.notSynchronized, findClass_of_methodNamed BL.named, (name_of_methodNamed BL.named BL.method).1, fun w hw => hts w (List.mem_cons_of_mem _ hw)⟩
  subst hsz
  have hl := lv_entry (args.map (cA ρ)) (n := y.2.2.1) (by rw [wid_sl]; exact hw)
  rw [argL_map] at hl
  rw [lg_entry_eq]
  have hk := h l D p e s m (args.map (cA ρ)).toArray below meth c s.heap _ [] (va_A (wsM E ρ κ B.2.2.1 M) s.heap.size) ρ ρ κ κ hf ⟨hG, by rw [hsc]; trivial⟩ hR.self va_S.rf (fun q hq => Or.inr hq) Ag.rf' ⟨Nat.le_refl _, hB⟩ hl
  rw [Nat.sub_self, Nat.sub_self] at hk
  exact hk
section CALL
variable {p : Program} {l : Launch} {e : Env} {R : Room} {s : State} {m : MethodId} {args : Array Value} {below : List Frame} {meth : Method} {c : Code} {H : Heap} {locs : List Loc} {cells slots : Nat} {Qt : State → Prop}
theorem call_go {pc : Nat} {ls : Array Slot} {rest st0 : List Value} {a : Array Value} {A A1 : Nat → Prop} {mc ms n n' : Nat} {D : va_G} {E' : Nat → Bool} {ρ : Nat → Nat} {κ : Nat → ClassId} {Qm : Option aV → Mem → Prop}
    (hr : va_Run p l e R s m args below meth c H locs cells slots mc ms (F0 m pc ls st0) rest (Qx D E' n n' ρ κ A1 Qm a) A1) (hS : va_S A s.heap H locs) (hA : ∀ q, A1 q → A q)
    (kk : ∀ (r : Option aV) (M' : Mem) (ρ' : Nat → Nat) (κ' : Nat → ClassId) (H1 : Heap) (locs1 : List Loc), Qm r M' → Ag n n' ρ κ ρ' κ' → Rl D E' ρ' κ' n' M' A s H1 → va_S A s.heap H1 locs1 → W p l e R s m args below meth c H1 locs1 (cells + mc) (slots + ms) Qt (F0 m (pc + 3) ls ((r.map (cA ρ')).toList ++ rest))) : W p l e R s m args below meth c H locs cells slots Qt (F0 m pc ls st0) := by
  intro T hT X
  obtain ⟨v, st₀, t, T', L, h0, X', hL, e1, e2, ⟨⟨r, M', ρ', κ', hv, hq, hag, hR⟩, hz, hk⟩, st⟩ := hr T hT X
  cases hv
  rw [h0] at hz hk
  have hal : s.vm.Alike t.vm := by rw [← e2]; exact X'.warmed.alike
  obtain ⟨t2, a1, b1⟩ := kk r M' ρ' κ' T'.heap (locs ++ L) hq hag (by rw [e1]; exact (hR.moved hal.symm).weak hA)
    ⟨Nat.le_trans hS.1 (by rw [e1]; exact hz), fun q h1 h2 => by rw [e1, hk q (Nat.lt_of_lt_of_le h1 hS.1) (fun z => h2 (hA q z))]; exact hS.2.1 q h1 h2, fun q hq => by
      rcases List.mem_append.mp hq with h | h
      · exact hS.2.2 q h
      · exact hA _ (hL q h)⟩ T' rfl X'
  exact ⟨t2, st t2 a1, b1⟩
end CALL
theorem wsY_good {y y' : MI} (h : Cond.code y'.1 y'.2.1 y'.2.2.1 y'.2.2.2.1 ∈ tbG) : GoodIn tbG (wsY y') := by
  intro w hw
  have hm : w ∈ tbG := by
    rcases List.mem_cons.mp hw with h1 | h1
    · rw [h1]; exact h
    · exact h1
  exact ⟨hm, good_of_word (List.mem_filter.mp hm).2⟩
theorem cumS_mono {a b : Nat} (h : a ≤ b) : cumS a ≤ cumS b := by
  induction h with
  | refl => exact Nat.le_refl _
  | step h ih =>
    refine Nat.le_trans ih ?_
    unfold cumS
    rw [List.range_succ, List.map_append, List.sum_append]
    omega
/-- what is called and how: 0 virtual, 1 static, 2 a constructor -/
def CK (k : Nat) (own : String) (ix : Nat) (y' : MI) (na : Nat) : Prop :=
  Cond.code y'.1 y'.2.1 y'.2.2.1 y'.2.2.2.1 ∈ tbG ∧ Cond.initialized y'.1.cls ∈ tbG ∧
  (y'.1.cls ≠ "java/lang/invoke/MethodHandle" ∧ y'.1.cls ≠ "java/lang/invoke/VarHandle" ∧ (parseMethodDescriptor y'.1.desc).map (fun d => d.parameters.length) = some na) ∧
  (Cond.methodLink own ix y'.1 ∈ tbG ∨ ∃ host, Cond.methodLinkNest own ix y'.1 host ∈ tbN) ∧
  (k = 0 → Cond.instanceMethod y'.1 ∈ tbG ∧ Cond.selects y'.1.cls y'.1 y'.1 ∈ tbG) ∧ (k = 1 → Cond.static y'.1 ∈ tbG) ∧ (k = 2 → y'.1.name = "<init>" ∧ Cond.instanceMethod y'.1 ∈ tbG ∧ y'.2.2.2.1 = none)
theorem catA (ρ : Nat → Nat) (S : List aV) : ((S.map (cA ρ)).map fun v => v.category).sum = wid S := by
  induction S with
  | nil => rfl
  | cons v S ih =>
    rw [List.map_cons, List.map_cons, List.sum_cons, ih]
    rcases v with a | a | a <;> rfl
section CALLS
variable {y y' : MI} {B : BI} {Q Qm : Option aV → Mem → Prop} {pc : Nat} {L : List (Nat × aV)} {S : List aV} {E : Nat → Bool} {n : Nat} {M : Mem}
theorem blindP {D : va_G} {ρ : Nat → Nat} {κ : Nat → ClassId} {sz n : Nat} {av : List Value} {A : Nat → Prop} : FrameBlind (va_Pc av (fun U => U.heap.size = sz ∧ Rl D E ρ κ n M (fun _ => True) U U.heap ∧ SG ρ A U U.heap)) := by
  intro a U g mk h
  obtain ⟨h1, h2, h3, h4⟩ := h
  exact ⟨h1, h2, h3.moved (Vm.Alike.refl U.vm), SG.same (s := U) (U := U.calling g mk a) (H := U.heap) rfl h4⟩
/-- a call that makes no cell -/
theorem R_call (kd : Nat) {ix : Nat} {As : List aV} {b : Nat} (hkd : kd = 0 ∨ kd = 1) (ck : CK kd y.1.cls ix y' As.length) (d : Dc y pc (if kd = 0 then .invokevirtual ix else .invokestatic ix) 3)
    (hrec : kd = 0 → (∃ ci q, lay b = .inl ci ∧ cls[ci]? = some q ∧ q.1 = y'.1.cls ∧ 1 ≤ b ∧ b ≤ n) ∨ (b = 998 ∧ y'.1.cls = "java/lang/String"))
    {fr' lo' : Nat} (hB1 : fr' + 1 ≤ B.1) (hB2 : 8 + (y'.2.2.1 + 11) + lo' ≤ B.2.1) (hS8 : wid S ≤ 8)
    (hM : Mt y' (fr', lo', n, n, E) E (if kd = 0 then vR b :: As else As) M Qm) (kk : ∀ r M', Qm r M' → Rr y B Q (pc + 3) L (r.toList ++ S) E n M') : Rr y B Q pc L (As.reverse ++ (if kd = 0 then vR b :: S else S)) E n M := by
  intro l D p e s m args below meth c0 H ls locs A ρ0 ρ κ0 κ f g r sS hA ag hn hl
  obtain ⟨hx, hb, hml, hrt, hlk, hown, hnm, hts⟩ := f
  obtain ⟨k1, k2, k3, k4, k5, k6, -⟩ := ck
  have hAf := wsM_free r sS hA
  have hgH : SG ρ (va_A (wsM E ρ κ n M) H.size) s H := (g.1.kept sS.2.1).narrow hAf
  have hpre : ∀ U : State, U.heap = H → s.WarmedH U.vm → U.heap.size = H.size ∧ Rl D E ρ κ n M (fun _ => True) U U.heap ∧ SG ρ (va_A (wsM E ρ κ n M) H.size) U U.heap := by
    intro U hU hW
    rw [hU]
    exact ⟨rfl, (r.moved hW.alike).weak (fun _ _ => trivial), hgH.warm hW⟩
  have hroom : (rmB (fr', lo', n, n, E)).cells = 0 ∧ (rmB (fr', lo', n, n, E)).slots = 0 := ⟨Nat.sub_self _, Nat.sub_self _⟩
  have hfit : (n - B.2.2.1) + 0 ≤ (rmB B).cells ∧ (cumS n - cumS B.2.2.1) + 0 ≤ (rmB B).slots := by
    have h1 := cumS_mono hn.2
    have h2 := hn.2
    refine ⟨?_, ?_⟩
    · show (n - B.2.2.1) + 0 ≤ B.2.2.2.1 - B.2.2.1
      omega
    · show (cumS n - cumS B.2.2.1) + 0 ≤ cumS B.2.2.2.1 - cumS B.2.2.1
      omega
  have hMe := hM l D ρ κ H.size
  rw [show n - n = 0 from Nat.sub_self _, show cumS n - cumS n = 0 from Nat.sub_self _] at hMe
  have cont : ∀ st0, va_Run p l e (rmB B) s m args below meth c0 H locs (n - B.2.2.1) (cumS n - cumS B.2.2.1) 0 0 (F0 m pc ls st0) (S.map (cA ρ)) (Qx D E n n ρ κ (va_A (wsM E ρ κ n M) H.size) Qm ((if kd = 0 then vR b :: As else As).map (cA ρ)).toArray) (va_A (wsM E ρ κ n M) H.size) →
      W p l e (rmB B) s m args below meth c0 H locs (n - B.2.2.1) (cumS n - cumS B.2.2.1) (MQ below (Qx D B.2.2.2.2 B.2.2.1 B.2.2.2.1 ρ0 κ0 A Q) args s (B.2.2.2.1 - B.2.2.1) (cumS B.2.2.2.1 - cumS B.2.2.1) A) (F0 m pc ls st0) := by
    intro st0 hr
    refine call_go hr sS hAf fun rr M' ρ' κ' H1 locs1 hq hag hR hS1 => ?_
    obtain ⟨e1, e2⟩ := hag.2 rfl
    subst e1; subst e2
    have hk := kk rr M' hq l D p e s m args below meth c0 H1 ls locs1 A ρ0 ρ' κ0 κ' ⟨hx, hb, hml, hrt, hlk, hown, hnm, hts⟩ g hR hS1 hA ag hn hl
    rw [List.map_append] at hk
    have hto : (rr.map (cA ρ')).toList = rr.toList.map (cA ρ') := by cases rr <;> rfl
    rw [hto]
    exact hk
  have hw8 : 2 * (F0 m pc ls (As.map (cA ρ))).monitorRoom + ((S.map (cA ρ)).map fun v => v.category).sum ≤ 8 := lv_room (by rw [catA]; exact hS8)
  have hw8' : ∀ st, 2 * (F0 m pc ls st).monitorRoom + ((S.map (cA ρ)).map fun v => v.category).sum ≤ 8 := fun st => lv_room (by rw [catA]; exact hS8)
  rcases hkd with rfl | rfl
  · have hrc : ∃ cell : Cell, H[ρ b]? = some cell ∧ cell.vm.isStatics = false ∧ s.vm.findClass y'.1.cls = some cell.cls := by
      rcases hrec rfl with ⟨ci, q, hlay, hq, hqn, hb1, hb2⟩ | ⟨rfl, hcl⟩
      · have hp := wsM_at (E := E) (ρ := ρ) (κ := κ) (M := M) hb1 hb2
        rw [cE_obj hlay] at hp
        have hrc := va_recv r.2.2.1 r.1 hq hp
        rw [hqn] at hrc
        exact hrc
      · rw [hcl]
        exact vk_recv g.1.2.2.2.1 (i := 0) (by omega) sS
    obtain ⟨i1, i2⟩ := k5 rfl
    have hst : (As.reverse ++ (if 0 = 0 then vR b :: S else S)).map (cA ρ) = (As.map (cA ρ)).reverse ++ .ref (ρ b) :: S.map (cA ρ) := by
      rw [List.map_append, List.map_reverse]
      rfl
    have hpv : PreV s H y'.1.cls (ρ b) (va_Pc ((if 0 = 0 then vR b :: As else As).map (cA ρ)) (fun U => U.heap.size = H.size ∧ Rl D E ρ κ n M (fun _ => True) U U.heap ∧ SG ρ (va_A (wsM E ρ κ n M) H.size) U U.heap)) (As.map (cA ρ)) :=
      ⟨blindP, hrc, fun U hU hW => ⟨rfl, hpre U hU hW⟩⟩
    rcases k4 with hlnk | ⟨host, hlnk⟩
    · exact cont _ (va_runV (As := As.map (cA ρ)) ⟨hx, hb, hml, hown, hts⟩ hMe ⟨callB_of _ hts (wsY_good (y := y) k1) rfl hroom.1 hroom.2 (hts _ k2) (hts _ hlnk) k3 ⟨hB1, hB2⟩, hts _ i1, hts _ i2⟩ hpv rfl (List.length_map ..) hl.1 hst (hw8' _) d hfit)
    · exact cont _ (va_runVN (As := As.map (cA ρ)) ⟨hx, hb, hml, hown, hts⟩ hMe ⟨va_cnB _ hts (wsY_good (y := y) k1) rfl hroom.1 hroom.2 (g.1.2.2.2.2.2.1 _ hlnk) (hts _ k2) k3 ⟨hB1, hB2⟩, hts _ i1, hts _ i2⟩ hpv rfl (List.length_map ..) hl.1 hst (hw8' _) d hfit)
  · have i1 := k6 rfl
    have hst : (As.reverse ++ (if 1 = 0 then vR b :: S else S)).map (cA ρ) = (As.map (cA ρ)).reverse ++ S.map (cA ρ) := by
      rw [List.map_append, List.map_reverse]
      rfl
    have hpv : PreS s H (va_Pc ((if 1 = 0 then vR b :: As else As).map (cA ρ)) (fun U => U.heap.size = H.size ∧ Rl D E ρ κ n M (fun _ => True) U U.heap ∧ SG ρ (va_A (wsM E ρ κ n M) H.size) U U.heap)) (As.map (cA ρ)) :=
      ⟨blindP, fun U hU hW => ⟨rfl, hpre U hU hW⟩⟩
    rcases k4 with hlnk | ⟨host, hlnk⟩
    · exact cont _ (va_runS (As := As.map (cA ρ)) ⟨hx, hb, hml, hown, hts⟩ hMe ⟨callB_of _ hts (wsY_good (y := y) k1) rfl hroom.1 hroom.2 (hts _ k2) (hts _ hlnk) k3 ⟨hB1, hB2⟩, hts _ i1⟩ hpv rfl (List.length_map ..) hl.1 hst (hw8' _) d hfit)
    · exact cont _ (va_runSN (As := As.map (cA ρ)) ⟨hx, hb, hml, hown, hts⟩ hMe ⟨va_cnB _ hts (wsY_good (y := y) k1) rfl hroom.1 hroom.2 (g.1.2.2.2.2.2.1 _ hlnk) (hts _ k2) k3 ⟨hB1, hB2⟩, hts _ i1, trivial⟩ hpv rfl (List.length_map ..) hl.1 hst (hw8' _) d hfit)
end CALLS
