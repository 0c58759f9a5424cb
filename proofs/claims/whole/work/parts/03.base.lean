/-! the words of this proof: contracts of methods that only read, of methods that change cells; calls by contract; partial functions -/
section ZB
variable {p : Program} {l : Launch} {e : Env} {R : Room} {s : State} {m : MethodId} {args : Array Value} {below : List Frame} {meth : Method} {c : Code} {H : Heap} {locs : List Loc} {cells slots : Nat} {Q : State → Prop}
abbrev zTy (cI cZ cM cS : ClassId) : List (ClassId × FieldType) := [(cI, .int), (cZ, .boolean), (cM, .object "SplitClasses$Image"), (cS, .object "SplitClasses$State")]
/-- a method that reads the world w and answers r -/
def zCR (l : Launch) (y : MethodName) (wl : List Cond) (rm : Room) (D : va_G) (tys : List (ClassId × FieldType)) (av : List Value) (w : va_W) (r : Int32) : Prop :=
  Met l y wl rm (va_Pc av (fun U => va_P D vwCl w U.heap ∧ va_K D vwCl tys U)) (QcRead r) 0 0 (fun _ => False)
/-- a method that turns the world w into w2 and answers ret; nothing new is made -/
def zCW (l : Launch) (y : MethodName) (wl : List Cond) (rm : Room) (D : va_G) (tys : List (ClassId × FieldType)) (av : List Value) (w w2 : va_W) (ret : Option Value) : Prop :=
  ∀ sz : Nat, Met l y wl rm (va_Pc av (fun U => U.heap.size = sz ∧ va_P D vwCl w U.heap ∧ va_K D vwCl tys U ∧ va_D (fun _ => True) w)) (fun _ st oc t => (oc = .returned ret ∧ va_P D vwCl w2 t.heap ∧ va_D (va_A w sz) w2) ∧ va_F (va_A w sz) st t) 0 0 (va_A w sz)
theorem zCR_of {y : MethodName} {wl ws' : List Cond} {rm : Room} {D : va_G} {tys : List (ClassId × FieldType)} {av : List Value} {w : va_W} {r : Int32} {cc : ByteArray} {maxL : Nat} {rt : FieldType} {own : String}
    (hy : plainName y.cls = true) (hw : wl = Cond.code y cc maxL (some rt) :: ws') (ho : y.cls = own) (hlen : (lg_sl av).length ≤ maxL)
    (body : ∀ (p : Program) (e : Env) (s : State) (m : MethodId) (args : Array Value) (below : List Frame) (meth : Method) (c : Code) (Q : State → Prop) (ls : Array Slot), CallFix p m c cc maxL s args wl own → va_K D vwCl tys s → va_P D vwCl w s.heap →
      (∀ (pc : Nat) (ls' : Array Slot), narrow rt (.int r) = .int r → decode cc pc = .ok (.ireturn, 1) → W p l e rm s m args below meth c s.heap [] 0 0 Q (F0 m pc ls' [.int r])) → lv_has ls maxL (lv_args 0 av) → W p l e rm s m args below meth c s.heap [] 0 0 Q (F0 m 0 ls [])) : zCR l y wl rm D tys av w r := by
  refine Met.ofW (cc := cc) (maxL := maxL) (ret := some rt) hy hw ?_
  intro p e s m args below meth c s₁ B hml hv
  obtain ⟨rfl, hP, hK⟩ := hv
  have hts := atoms_spec (ws := wl) B.pre
  have hown : s.vm.findClass y.cls = some m.cls := findClass_of_methodNamed B.named
  rw [ho] at hown
  have hl := lv_entry av (n := maxL) hlen
  rw [lg_entry_eq]
  exact body p e s m _ below meth c _ _ ⟨B.exec, B.bytes, hml, hown, hts⟩ hK hP (fun pc ls' hn hdg => W.zret B.exec B.bytes B.returns hn (fun t ht hW => ⟨rfl, ht⟩) (fun q hq => by cases hq) hdg B.notSynchronized) hl
theorem zCW_ofv {y : MethodName} {wl ws' : List Cond} {rm : Room} {D : va_G} {tys : List (ClassId × FieldType)} {av : List Value} {w w2 : va_W} {cc : ByteArray} {maxL : Nat} {own : String}
    (hy : plainName y.cls = true) (hw : wl = Cond.code y cc maxL none :: ws') (ho : y.cls = own) (hlen : (lg_sl av).length ≤ maxL)
    (body : ∀ (p : Program) (e : Env) (s : State) (m : MethodId) (args : Array Value) (below : List Frame) (meth : Method) (c : Code) (Q : State → Prop) (ls : Array Slot) (A : Nat → Prop), CallFix p m c cc maxL s args wl own → (∀ q : Nat, s.heap.size ≤ q → A q) → va_K D vwCl tys s → va_P D vwCl w s.heap → va_D A w →
      (∀ (H : Heap) (locs : List Loc) (pc : Nat) (ls' : Array Slot), decode cc pc = .ok (.return_, 1) → va_P D vwCl w2 H → va_D A w2 → va_S A s.heap H locs → W p l e rm s m args below meth c H locs 0 0 Q (F0 m pc ls' [])) → va_S A s.heap s.heap [] → lv_has ls maxL (lv_args 0 av) → W p l e rm s m args below meth c s.heap [] 0 0 Q (F0 m 0 ls [])) : zCW l y wl rm D tys av w w2 none := by
  intro sz
  refine Met.ofW (cc := cc) (maxL := maxL) (ret := none) hy hw ?_
  intro p e s m args below meth c s₁ B hml hv
  obtain ⟨rfl, hsz, hP, hK, hD0⟩ := hv
  have hts := atoms_spec (ws := wl) B.pre
  have hown : s.vm.findClass y.cls = some m.cls := findClass_of_methodNamed B.named
  rw [ho] at hown
  have hl := lv_entry av (n := maxL) hlen
  rw [lg_entry_eq]
  subst hsz
  exact body p e s m _ below meth c _ _ (va_A w s.heap.size) ⟨B.exec, B.bytes, hml, hown, hts⟩ (fun q h => Or.inr h) hK hP (hD0.self (sz := s.heap.size)) (fun H locs pc ls' hdg hP' hD' hS' => W.vret B.exec B.bytes B.returns (fun t ht hW => ⟨⟨rfl, by rw [ht]; exact hP', hD'⟩, hS'.F ht⟩) hS'.2.2 hdg B.notSynchronized) va_S.rf hl
theorem zCW_ofi {y : MethodName} {wl ws' : List Cond} {rm : Room} {D : va_G} {tys : List (ClassId × FieldType)} {av : List Value} {w w2 : va_W} {r : Int32} {cc : ByteArray} {maxL : Nat} {rt : FieldType} {own : String}
    (hy : plainName y.cls = true) (hw : wl = Cond.code y cc maxL (some rt) :: ws') (ho : y.cls = own) (hlen : (lg_sl av).length ≤ maxL)
    (body : ∀ (p : Program) (e : Env) (s : State) (m : MethodId) (args : Array Value) (below : List Frame) (meth : Method) (c : Code) (Q : State → Prop) (ls : Array Slot) (A : Nat → Prop), CallFix p m c cc maxL s args wl own → (∀ q : Nat, s.heap.size ≤ q → A q) → va_K D vwCl tys s → va_P D vwCl w s.heap → va_D A w →
      (∀ (H : Heap) (locs : List Loc) (pc : Nat) (ls' : Array Slot), narrow rt (.int r) = .int r → decode cc pc = .ok (.ireturn, 1) → va_P D vwCl w2 H → va_D A w2 → va_S A s.heap H locs → W p l e rm s m args below meth c H locs 0 0 Q (F0 m pc ls' [.int r])) → va_S A s.heap s.heap [] → lv_has ls maxL (lv_args 0 av) → W p l e rm s m args below meth c s.heap [] 0 0 Q (F0 m 0 ls [])) : zCW l y wl rm D tys av w w2 (some (.int r)) := by
  intro sz
  refine Met.ofW (cc := cc) (maxL := maxL) (ret := some rt) hy hw ?_
  intro p e s m args below meth c s₁ B hml hv
  obtain ⟨rfl, hsz, hP, hK, hD0⟩ := hv
  have hts := atoms_spec (ws := wl) B.pre
  have hown : s.vm.findClass y.cls = some m.cls := findClass_of_methodNamed B.named
  rw [ho] at hown
  have hl := lv_entry av (n := maxL) hlen
  rw [lg_entry_eq]
  subst hsz
  exact body p e s m _ below meth c _ _ (va_A w s.heap.size) ⟨B.exec, B.bytes, hml, hown, hts⟩ (fun q h => Or.inr h) hK hP (hD0.self (sz := s.heap.size)) (fun H locs pc ls' hn hdg hP' hD' hS' => W.zret B.exec B.bytes B.returns hn (fun t ht hW => ⟨⟨rfl, by rw [ht]; exact hP', hD'⟩, hS'.F ht⟩) hS'.2.2 hdg B.notSynchronized) va_S.rf hl
theorem zfm {α β : Type} {f : α → Option β} {a : List α} {w : List β} (h : a.map f = w.map some) : a.filterMap f = w := by
  induction a generalizing w with
  | nil => cases w with
    | nil => rfl
    | cons b w => simp at h
  | cons x a ih => cases w with
    | nil => simp at h
    | cons b w =>
      simp only [List.map_cons, List.cons.injEq] at h
      rw [List.filterMap_cons, h.1]
      simp [ih h.2]
variable {pc : Nat} {ls : Array Slot} {rest st0 : List Value} {A : Nat → Prop} {D : va_G} {tys : List (ClassId × FieldType)} {ws wc wr w1 w2 : va_W} {ret : Option Value}
/-- behind a call that changes cells: the caller's world again, in its own order -/
theorem zcall (hr : va_Run p l e R s m args below meth c H locs cells slots 0 0 (F0 m pc ls st0) rest (fun st oc t => (oc = .returned ret ∧ va_P D vwCl w1 t.heap ∧ va_D (va_A wc H.size) w1) ∧ va_F (va_A wc H.size) st t) (va_A wc H.size))
    (hP : va_P D vwCl ws H) (hD : va_D A ws) (hS : va_S A s.heap H locs) (hA : ∀ q : Nat, s.heap.size ≤ q → A q) (isC isR is : List Nat) (hC : isC.map (fun i => ws[i]?) = wc.map some) (hR : isR.map (fun i => ws[i]?) = wr.map some) (hn : va_nd isR = true) (hdis : ∀ i ∈ isR, i ∉ isC)
    (hi : is.map (fun i => (wr ++ w1)[i]?) = w2.map some) (hni : va_nd is = true)
    (kk : ∀ (H1 : Heap) (locs1 : List Loc), va_P D vwCl w2 H1 → va_D A w2 → va_S A s.heap H1 locs1 → W p l e R s m args below meth c H1 locs1 cells slots Q (F0 m (pc + 3) ls (ret.toList ++ rest))) : W p l e R s m args below meth c H locs cells slots Q (F0 m pc ls st0) := by
  intro T hT X
  obtain ⟨v, st₀, t, T', L, h0, X', hL, e1, e2, ⟨⟨hv, hP1, hD1⟩, hz, hk⟩, st⟩ := hr T hT X
  cases hv
  rw [h0] at hz hk
  have hFc := va_free (wc := wc) hD hS hA isC hC
  obtain ⟨hP2, hD2⟩ := va_join (wr := wr) (w1 := w1) hP hD isC isR hC hR hn hdis hk hFc hP1 hD1
  obtain ⟨t2, a1, b1⟩ := kk T'.heap (locs ++ L) (by rw [e1]; exact hP2.sub is (zfm hi)) (hD2.sub is hni hi)
    ⟨Nat.le_trans hS.1 (by rw [e1]; exact hz), fun q h1 h2 => by rw [e1, hk q (Nat.lt_of_lt_of_le h1 hS.1) (fun z => h2 (hFc q z))]; exact hS.2.1 q h1 h2, fun q hq => by
      rcases List.mem_append.mp hq with h | h
      · exact hS.2.2 q h
      · exact hFc _ (hL q h)⟩ T' rfl X'
  exact ⟨t2, st t2 a1, b1⟩
variable {y : MethodName} {bytes cc : ByteArray} {maxL nL index : Nat} {rt : Option FieldType} {wl wl' : List Cond} {rm : Room} {Ts : List Cond} {own C : String} {b : Nat} {As : List Value}
theorem zblind {sz : Nat} {av : List Value} {w : va_W} : FrameBlind (va_Pc av (fun U => U.heap.size = sz ∧ va_P D vwCl w U.heap ∧ va_K D vwCl tys U ∧ va_D (fun _ => True) w)) := fun a U g mk q => by
  obtain ⟨q0, q1, qP, qK, qD⟩ := q
  exact ⟨q0, q1, qP, va_K.moved (u := U) (U := U.calling g mk a) (Vm.Alike.refl U.vm) qK, qD⟩
theorem zblindR {av : List Value} {w : va_W} : FrameBlind (va_Pc av (fun U => va_P D vwCl w U.heap ∧ va_K D vwCl tys U)) := fun a U g mk q => by
  obtain ⟨q0, qP, qK⟩ := q
  exact ⟨q0, qP, va_K.moved (u := U) (U := U.calling g mk a) (Vm.Alike.refl U.vm) qK⟩
/-- invokevirtual of a method that changes cells -/
theorem zV (E : CallFix p m c cc nL s args Ts own) (hC0 : zCW l y wl rm D tys (.ref b :: As) wc w1 ret) (n : Nat) (hG : GoodIn Ts (wsV own index C y wl)) (hw : wl = Cond.code y bytes maxL rt :: wl') (hrc : rm.cells = 0) (hrs : rm.slots = 0)
    (hd : y.cls = C ∧ y.cls ≠ "java/lang/invoke/MethodHandle" ∧ y.cls ≠ "java/lang/invoke/VarHandle" ∧ (parseMethodDescriptor y.desc).map (fun d => d.parameters.length) = some n) (hR0 : rm.frames + 1 ≤ R.frames ∧ 8 + (maxL + 11) + rm.locals ≤ R.locals)
    (hK : va_K D vwCl tys s) (hP : va_P D vwCl ws H) (hD : va_D A ws) (hS : va_S A s.heap H locs) (hA : ∀ q : Nat, s.heap.size ≤ q → A q) (isC isR is : List Nat) (hnc : va_nd isC = true) (hC : isC.map (fun i => ws[i]?) = wc.map some) (hR : isR.map (fun i => ws[i]?) = wr.map some) (hn : va_nd isR = true) (hdis : ∀ i ∈ isR, i ∉ isC)
    (hi : is.map (fun i => (wr ++ w1)[i]?) = w2.map some) (hni : va_nd is = true) (q0 ci : Nat) {fs : List Value} {q : vw_C} (hc : vwCl[ci]? = some q) (hq : q.1 = C) (he : wc[q0]? = some (b, .inr (ci, fs)))
    (hn0 : As.length = n) (hsz : ls.size = nL) (hst : st0 = As.reverse ++ .ref b :: rest) (hrm : (rest.map fun v => v.category).sum ≤ 8) (hdg : decode cc pc = .ok (.invokevirtual index, 3)) (hf : cells + 0 ≤ R.cells ∧ slots + 0 ≤ R.slots)
    (kk : ∀ (H1 : Heap) (locs1 : List Loc), va_P D vwCl w2 H1 → va_D A w2 → va_S A s.heap H1 locs1 → W p l e R s m args below meth c H1 locs1 cells slots Q (F0 m (pc + 3) ls (ret.toList ++ rest))) : W p l e R s m args below meth c H locs cells slots Q (F0 m pc ls st0) := by
  have hPc := hP.sub isC (zfm hC)
  have hDc := hD.sub isC hnc hC
  exact zcall (va_runV E (hC0 H.size) (cwV n E.2.2.2.2 hG hw hrc hrs hd hR0) ⟨zblind, by rw [← hq]; exact va_recv hK hPc hc he, fun U hU hW => ⟨rfl, by rw [hU], by rw [hU]; exact hPc, va_K.moved hW.alike hK, hDc.weaken (fun _ _ _ _ => trivial)⟩⟩ rfl hn0 hsz hst (lv_room hrm) hdg hf) hP hD hS hA isC isR is hC hR hn hdis hi hni kk
/-- invokestatic of a method that changes cells -/
theorem zS (E : CallFix p m c cc nL s args Ts own) (hC0 : zCW l y wl rm D tys As wc w1 ret) (n : Nat) (hG : GoodIn Ts (va_wsS own index y wl)) (hw : wl = Cond.code y bytes maxL rt :: wl') (hrc : rm.cells = 0) (hrs : rm.slots = 0)
    (hd : y.cls ≠ "java/lang/invoke/MethodHandle" ∧ y.cls ≠ "java/lang/invoke/VarHandle" ∧ (parseMethodDescriptor y.desc).map (fun d => d.parameters.length) = some n) (hR0 : rm.frames + 1 ≤ R.frames ∧ 8 + (maxL + 11) + rm.locals ≤ R.locals)
    (hK : va_K D vwCl tys s) (hP : va_P D vwCl ws H) (hD : va_D A ws) (hS : va_S A s.heap H locs) (hA : ∀ q : Nat, s.heap.size ≤ q → A q) (isC isR is : List Nat) (hnc : va_nd isC = true) (hC : isC.map (fun i => ws[i]?) = wc.map some) (hR : isR.map (fun i => ws[i]?) = wr.map some) (hn : va_nd isR = true) (hdis : ∀ i ∈ isR, i ∉ isC)
    (hi : is.map (fun i => (wr ++ w1)[i]?) = w2.map some) (hni : va_nd is = true)
    (hn0 : As.length = n) (hsz : ls.size = nL) (hst : st0 = As.reverse ++ rest) (hrm : (rest.map fun v => v.category).sum ≤ 8) (hdg : decode cc pc = .ok (.invokestatic index, 3)) (hf : cells + 0 ≤ R.cells ∧ slots + 0 ≤ R.slots)
    (kk : ∀ (H1 : Heap) (locs1 : List Loc), va_P D vwCl w2 H1 → va_D A w2 → va_S A s.heap H1 locs1 → W p l e R s m args below meth c H1 locs1 cells slots Q (F0 m (pc + 3) ls (ret.toList ++ rest))) : W p l e R s m args below meth c H locs cells slots Q (F0 m pc ls st0) := by
  have hPc := hP.sub isC (zfm hC)
  have hDc := hD.sub isC hnc hC
  exact zcall (va_runS E (hC0 H.size) (va_cwS n E.2.2.2.2 hG hw hrc hrs hd hR0) ⟨zblind, fun U hU hW => ⟨rfl, by rw [hU], by rw [hU]; exact hPc, va_K.moved hW.alike hK, hDc.weaken (fun _ _ _ _ => trivial)⟩⟩ rfl hn0 hsz hst (lv_room hrm) hdg hf) hP hD hS hA isC isR is hC hR hn hdis hi hni kk
/-- invokevirtual of a method that only reads -/
theorem zVr {r : Int32} (E : CallFix p m c cc nL s args Ts own) (hC0 : zCR l y wl rm D tys (.ref b :: As) wc r) (n : Nat) (hG : GoodIn Ts (wsV own index C y wl)) (hw : wl = Cond.code y bytes maxL rt :: wl') (hrc : rm.cells = 0) (hrs : rm.slots = 0)
    (hd : y.cls = C ∧ y.cls ≠ "java/lang/invoke/MethodHandle" ∧ y.cls ≠ "java/lang/invoke/VarHandle" ∧ (parseMethodDescriptor y.desc).map (fun d => d.parameters.length) = some n) (hR0 : rm.frames + 1 ≤ R.frames ∧ 8 + (maxL + 11) + rm.locals ≤ R.locals)
    (hK : va_K D vwCl tys s) (hP : va_P D vwCl ws H) (isC : List Nat) (hC : isC.map (fun i => ws[i]?) = wc.map some) (q0 ci : Nat) {fs : List Value} {q : vw_C} (hc : vwCl[ci]? = some q) (hq : q.1 = C) (he : wc[q0]? = some (b, .inr (ci, fs)))
    (hn0 : As.length = n) (hsz : ls.size = nL) (hst : st0 = As.reverse ++ .ref b :: rest) (hrm : (rest.map fun v => v.category).sum ≤ 8) (hdg : decode cc pc = .ok (.invokevirtual index, 3)) (hf : cells + 0 ≤ R.cells ∧ slots + 0 ≤ R.slots)
    (kk : W p l e R s m args below meth c H locs cells slots Q (F0 m (pc + 3) ls (.int r :: rest))) : W p l e R s m args below meth c H locs cells slots Q (F0 m pc ls st0) := by
  have hPc := hP.sub isC (zfm hC)
  exact W.callR (W.runV E hC0 (cwV n E.2.2.2.2 hG hw hrc hrs hd hR0) ⟨zblindR, by rw [← hq]; exact va_recv hK hPc hc he, fun U hU hW => ⟨rfl, by rw [hU]; exact hPc, va_K.moved hW.alike hK⟩⟩ rfl hn0 hsz hst (lv_room hrm) hdg hf) kk
/-- invokestatic of a method that only reads -/
theorem zSr {r : Int32} (E : CallFix p m c cc nL s args Ts own) (hC0 : zCR l y wl rm D tys As wc r) (n : Nat) (hG : GoodIn Ts (va_wsS own index y wl)) (hw : wl = Cond.code y bytes maxL rt :: wl') (hrc : rm.cells = 0) (hrs : rm.slots = 0)
    (hd : y.cls ≠ "java/lang/invoke/MethodHandle" ∧ y.cls ≠ "java/lang/invoke/VarHandle" ∧ (parseMethodDescriptor y.desc).map (fun d => d.parameters.length) = some n) (hR0 : rm.frames + 1 ≤ R.frames ∧ 8 + (maxL + 11) + rm.locals ≤ R.locals)
    (hK : va_K D vwCl tys s) (hP : va_P D vwCl ws H) (isC : List Nat) (hC : isC.map (fun i => ws[i]?) = wc.map some)
    (hn0 : As.length = n) (hsz : ls.size = nL) (hst : st0 = As.reverse ++ rest) (hrm : (rest.map fun v => v.category).sum ≤ 8) (hdg : decode cc pc = .ok (.invokestatic index, 3)) (hf : cells + 0 ≤ R.cells ∧ slots + 0 ≤ R.slots)
    (kk : W p l e R s m args below meth c H locs cells slots Q (F0 m (pc + 3) ls (.int r :: rest))) : W p l e R s m args below meth c H locs cells slots Q (F0 m pc ls st0) := by
  have hPc := hP.sub isC (zfm hC)
  exact W.callR (W.runS E hC0 (va_cwS n E.2.2.2.2 hG hw hrc hrs hd hR0) ⟨zblindR, fun U hU hW => ⟨rfl, by rw [hU]; exact hPc, va_K.moved hW.alike hK⟩⟩ rfl hn0 hsz hst (lv_room hrm) hdg hf) kk
end ZB
/-! partial functions: what a method answers, if no index leaves its row and no loop runs out of its fuel -/
section ZO
variable {α β γ δ ε ζ η θ ρ σ : Type}
def ob1 (a : Option α) (b : α → Option ρ) : Option ρ := match a with
  | none => none
  | some x => b x
def ob2 (a : Option (α × β)) (b : α → β → Option ρ) : Option ρ := match a with
  | none => none
  | some x => b x.1 x.2
def ob3 (a : Option (α × β × γ)) (b : α → β → γ → Option ρ) : Option ρ := match a with
  | none => none
  | some x => b x.1 x.2.1 x.2.2
def ob4 (a : Option (α × β × γ × δ)) (b : α → β → γ → δ → Option ρ) : Option ρ := match a with
  | none => none
  | some x => b x.1 x.2.1 x.2.2.1 x.2.2.2
def ob5 (a : Option (α × β × γ × δ × ε)) (b : α → β → γ → δ → ε → Option ρ) : Option ρ := match a with
  | none => none
  | some x => b x.1 x.2.1 x.2.2.1 x.2.2.2.1 x.2.2.2.2
def ob6 (a : Option (α × β × γ × δ × ε × ζ)) (b : α → β → γ → δ → ε → ζ → Option ρ) : Option ρ := match a with
  | none => none
  | some x => b x.1 x.2.1 x.2.2.1 x.2.2.2.1 x.2.2.2.2.1 x.2.2.2.2.2
def ob7 (a : Option (α × β × γ × δ × ε × ζ × η)) (b : α → β → γ → δ → ε → ζ → η → Option ρ) : Option ρ := match a with
  | none => none
  | some x => b x.1 x.2.1 x.2.2.1 x.2.2.2.1 x.2.2.2.2.1 x.2.2.2.2.2.1 x.2.2.2.2.2.2
def ob8 (a : Option (α × β × γ × δ × ε × ζ × η × θ)) (b : α → β → γ → δ → ε → ζ → η → θ → Option ρ) : Option ρ := match a with
  | none => none
  | some x => b x.1 x.2.1 x.2.2.1 x.2.2.2.1 x.2.2.2.2.1 x.2.2.2.2.2.1 x.2.2.2.2.2.2.1 x.2.2.2.2.2.2.2
theorem ob1_e {a : Option α} {b : α → Option ρ} {r : ρ} (h : ob1 a b = some r) : ∃ x, a = some x ∧ b x = some r := by
  cases a with
  | none => cases h
  | some x => exact ⟨_, rfl, h⟩
theorem ob2_e {a : Option (α × β)} {b : α → β → Option ρ} {r : ρ} (h : ob2 a b = some r) : ∃ x y, a = some (x, y) ∧ b x y = some r := by
  cases a with
  | none => cases h
  | some x => exact ⟨_, _, rfl, h⟩
theorem ob3_e {a : Option (α × β × γ)} {b : α → β → γ → Option ρ} {r : ρ} (h : ob3 a b = some r) : ∃ x y z, a = some (x, y, z) ∧ b x y z = some r := by
  cases a with
  | none => cases h
  | some x => exact ⟨_, _, _, rfl, h⟩
theorem ob4_e {a : Option (α × β × γ × δ)} {b : α → β → γ → δ → Option ρ} {r : ρ} (h : ob4 a b = some r) : ∃ x y z u, a = some (x, y, z, u) ∧ b x y z u = some r := by
  cases a with
  | none => cases h
  | some x => exact ⟨_, _, _, _, rfl, h⟩
theorem ob5_e {a : Option (α × β × γ × δ × ε)} {b : α → β → γ → δ → ε → Option ρ} {r : ρ} (h : ob5 a b = some r) : ∃ x y z u v, a = some (x, y, z, u, v) ∧ b x y z u v = some r := by
  cases a with
  | none => cases h
  | some x => exact ⟨_, _, _, _, _, rfl, h⟩
theorem ob6_e {a : Option (α × β × γ × δ × ε × ζ)} {b : α → β → γ → δ → ε → ζ → Option ρ} {r : ρ} (h : ob6 a b = some r) : ∃ x y z u v w, a = some (x, y, z, u, v, w) ∧ b x y z u v w = some r := by
  cases a with
  | none => cases h
  | some x => exact ⟨_, _, _, _, _, _, rfl, h⟩
theorem ob7_e {a : Option (α × β × γ × δ × ε × ζ × η)} {b : α → β → γ → δ → ε → ζ → η → Option ρ} {r : ρ} (h : ob7 a b = some r) : ∃ x y z u v w t, a = some (x, y, z, u, v, w, t) ∧ b x y z u v w t = some r := by
  cases a with
  | none => cases h
  | some x => exact ⟨_, _, _, _, _, _, _, rfl, h⟩
theorem ob8_e {a : Option (α × β × γ × δ × ε × ζ × η × θ)} {b : α → β → γ → δ → ε → ζ → η → θ → Option ρ} {r : ρ} (h : ob8 a b = some r) : ∃ x y z u v w t q, a = some (x, y, z, u, v, w, t, q) ∧ b x y z u v w t q = some r := by
  cases a with
  | none => cases h
  | some x => exact ⟨_, _, _, _, _, _, _, _, rfl, h⟩
/-- an index is within its row -/
def ogd (i : Int32) (n : Nat) (k : Option ρ) : Option ρ := if i < 0 ∨ n ≤ i.toNatClampNeg then none else k
theorem ogd_e {i : Int32} {n : Nat} {k : Option ρ} {r : ρ} (h : ogd i n k = some r) : vp_in i n ∧ k = some r := by
  unfold ogd at h
  split at h
  · cases h
  · exact ⟨‹_›, h⟩
/-- a divisor isn't 0 -/
def onz (y : Int32) (k : Option ρ) : Option ρ := if y = 0 then none else k
theorem onz_e {y : Int32} {k : Option ρ} {r : ρ} (h : onz y k = some r) : (¬ y = 0) ∧ k = some r := by
  unfold onz at h
  split at h
  · cases h
  · exact ⟨‹_›, h⟩
/-- a number is a truth value -/
def obl (y : Int32) (k : Option ρ) : Option ρ := if y = 0 ∨ y = 1 then k else none
theorem obl_e {y : Int32} {k : Option ρ} {r : ρ} (h : obl y k = some r) : narrow .boolean (.int y) = .int y ∧ k = some r := by
  unfold obl at h
  split at h
  · rename_i hy
    rcases hy with rfl | rfl
    · exact ⟨narrow_b0, h⟩
    · exact ⟨narrow_b1, h⟩
  · cases h
theorem oif_t {c : Prop} [Decidable c] {a b : Option ρ} {r : ρ} (h : (if c then a else b) = some r) (hc : c) : a = some r := by rw [if_pos hc] at h; exact h
theorem oif_f {c : Prop} [Decidable c] {a b : Option ρ} {r : ρ} (h : (if c then a else b) = some r) (hc : ¬ c) : b = some r := by rw [if_neg hc] at h; exact h
/-- a loop: a step gives the next state, or the end -/
def olp (f : σ → Option (σ ⊕ ρ)) : Nat → σ → Option ρ
  | 0, _ => none
  | n + 1, s => match f s with
    | none => none
    | some (.inl t) => olp f n t
    | some (.inr r) => some r
def oFu : Nat := 10000
theorem olp_e {f : σ → Option (σ ⊕ ρ)} {n : Nat} {s : σ} {r : ρ} (h : olp f (n + 1) s = some r) : ∃ z, f s = some z ∧ ((∃ t, z = .inl t ∧ olp f n t = some r) ∨ z = .inr r) := by
  unfold olp at h
  cases hz : f s with
  | none => rw [hz] at h; cases h
  | some z =>
    rw [hz] at h
    cases z with
    | inl t => exact ⟨_, rfl, Or.inl ⟨t, rfl, h⟩⟩
    | inr q => exact ⟨_, rfl, Or.inr (congrArg Sum.inr (Option.some.inj h))⟩
theorem olp_0 {f : σ → Option (σ ⊕ ρ)} {s : σ} {r : ρ} {G : Prop} (h : olp f 0 s = some r) : G := by
  unfold olp at h
  cases h
theorem olp_l {f : σ → Option (σ ⊕ ρ)} {n : Nat} {t0 : σ} {r : ρ} {z : σ ⊕ ρ} (hz : some (Sum.inl t0) = some z) (h : (∃ t, z = .inl t ∧ olp f n t = some r) ∨ z = .inr r) : olp f n t0 = some r := by
  cases hz
  rcases h with ⟨t, h1, h2⟩ | h
  · cases h1; exact h2
  · cases h
theorem olp_r {f : σ → Option (σ ⊕ ρ)} {n : Nat} {r0 r : ρ} {z : σ ⊕ ρ} (hz : some (Sum.inr r0) = some z) (h : (∃ t, z = .inl t ∧ olp f n t = some r) ∨ z = .inr r) : r0 = r := by
  cases hz
  rcases h with ⟨t, h1, h2⟩ | h
  · cases h1
  · cases h; rfl
theorem osm {a b : α} (h : some a = some b) : a = b := Option.some.inj h
/-- a loop over numbers, by an invariant: from i on, up to e -/
theorem olp_for {f : σ → Option (σ ⊕ ρ)} {r : ρ} (I : Nat → σ → Prop) (k : Nat) (hs : ∀ i s, i < k → I i s → ∃ t, f s = some (.inl t) ∧ I (i + 1) t) (hx : ∀ s, I k s → f s = some (.inr r)) : ∀ (n i : Nat) (s : σ), i ≤ k → k - i < n → I i s → olp f n s = some r := by
  intro n
  induction n with
  | zero => intro i s h1 h2; omega
  | succ n ih =>
    intro i s h1 h2 h3
    unfold olp
    by_cases hik : i < k
    · obtain ⟨t, e, h4⟩ := hs i s hik h3
      rw [e]
      exact ih (i + 1) t hik (by omega) h4
    · have : i = k := by omega
      subst this
      rw [hx s h3]
end ZO
