/-! constructors: what they make -/
theorem zRA_eq {U : State} {a b : ClassId} {ty : FieldType} (h1 : va_RA U a ty) (h2 : va_RA U b ty) : a = b := by
  cases ty with
  | object C =>
    obtain ⟨_, _, _, _, _, e1⟩ := h1
    obtain ⟨_, _, _, _, _, e2⟩ := h2
    exact Option.some.inj (e1.symm.trans e2)
  | _ => exact Option.some.inj (Eq.trans (Eq.symm h1) h2)
section ZN
variable {p : Program} {l : Launch} {e : Env} {R : Room} {s : State} {m : MethodId} {args : Array Value} {below : List Frame} {meth : Method} {c : Code} {H H0 : Heap} {locs : List Loc} {cells slots : Nat} {Q : State → Prop}
variable {pc : Nat} {ls : Array Slot} {rest st0 : List Value} {A : Nat → Prop} {D : va_G} {tys : List (ClassId × FieldType)} {ws wc wr w1 w2 : va_W} {cc : ByteArray} {cl : List vw_C}
theorem z_newa (hexec : p.tables.exec = Jvm.exec) (hb : c.code = cc) {atype : ArrayType} (harr : (Cond.arrayClass (newarray.typeOf atype)).before args s = true) {ty : FieldType} (hty : newarray.typeOf atype = ty) (hK : va_K D cl tys s) (hP : va_P D cl ws H) (hD : va_D A ws) (hS : va_S A H0 H locs) (hA : ∀ q : Nat, H0.size ≤ q → A q)
    (t0 : Nat) {cA : ClassId} (ht : tys[t0]? = some (cA, ty)) {n : Int32} {N' : Nat} {a0 : vp_A} (ha : ∀ cA : ClassId, vp_cell cA a0 = arrV cA N' (fun _ => defaultValue ty)) (hn : ¬ n < 0) (hN : n.toNatClampNeg = N') (hbytes : N' * componentBytes ty ≤ 536870912) (hcells : cells + 1 ≤ R.cells) (hslots : slots + N' ≤ R.slots) (hdg : decode cc pc = .ok (.newarray atype, 2))
    (kk : ∀ (q : Nat) (H1 : Heap), va_P D cl (ws ++ [(q, .inl (cA, a0))]) H1 → va_D A (ws ++ [(q, .inl (cA, a0))]) → va_S A H0 H1 locs →
      W p l e R s m args below meth c H1 locs (cells + 1) (slots + N') Q (F0 m (pc + 2) ls (.ref q :: rest))) : W p l e R s m args below meth c H locs cells slots Q (F0 m pc ls (.int n :: rest)) := by
  refine va_newa hexec hb harr hty hK hP hD hS hA ha hn hN hbytes hcells hslots hdg (fun q cB H1 hK1 hP1 hD1 hS1 => ?_)
  have e1 : cB = cA := zRA_eq (hK1.2 tys.length (cB, ty) (by simp)).2 (hK.2 t0 _ ht).2
  subst e1
  exact kk q H1 hP1 hD1 hS1
theorem z_newq (hexec : p.tables.exec = Jvm.exec) (hb : c.code = cc) {own C : String} {index : Nat} (hown : s.vm.findClass own = some m.cls) (hclink : (Cond.classLink own index C).before args s = true) (hover : va_AO C s) (hK : va_K D cl tys s) (hP : va_P D cl ws H) (hD : va_D A ws) (hS : va_S A H0 H locs) (hA : ∀ q : Nat, H0.size ≤ q → A q)
    (t0 : Nat) {cA : ClassId} (ht : tys[t0]? = some (cA, .object C)) {n : Int32} {N' : Nat} (hn : ¬ n < 0) (hN : n.toNatClampNeg = N') (hbytes : N' * 4 ≤ 536870912) (hcells : cells + 1 ≤ R.cells) (hslots : slots + N' ≤ R.slots) (hdg : decode cc pc = .ok (.anewarray index, 3))
    (kk : ∀ (q : Nat) (H1 : Heap), va_P D cl (ws ++ [(q, .inl (cA, N', .inr (.inr (.inr (.inr (fun _ => none))))))]) H1 → va_D A (ws ++ [(q, .inl (cA, N', .inr (.inr (.inr (.inr (fun _ => none))))))]) → va_S A H0 H1 locs →
      W p l e R s m args below meth c H1 locs (cells + 1) (slots + N') Q (F0 m (pc + 3) ls (.ref q :: rest))) : W p l e R s m args below meth c H locs cells slots Q (F0 m pc ls (.int n :: rest)) := by
  refine va_newq hexec hb hown hclink hover hK hP hD hS hA hn hN hbytes hcells hslots hdg (fun q cB H1 hK1 hP1 hD1 hS1 => ?_)
  have e1 : cB = cA := zRA_eq (hK1.2 tys.length (cB, .object C) (by simp)).2 (hK.2 t0 _ ht).2
  subst e1
  exact kk q H1 hP1 hD1 hS1
abbrev zRmN (f cs ss n : Nat) : Room := { frames := f, cells := cs, slots := ss, locals := n }
/-- a constructor: from the world w (its own object, blank) a world of the sort 'post'; ao: over which types there are arrays -/
def zCN (l : Launch) (y : MethodName) (wl : List Cond) (rm : Room) (D : va_G) (tys : List (ClassId × FieldType)) (ao : List String) (av : List Value) (w : va_W) (post : va_W → Prop) (mc ms : Nat) : Prop :=
  ∀ sz : Nat, Met l y wl rm (va_Pc av (fun U => U.heap.size = sz ∧ va_P D vwCl w U.heap ∧ va_K D vwCl tys U ∧ va_D (fun _ => True) w ∧ ∀ C ∈ ao, va_AO C U)) (fun _ st oc t => (∃ w2, post w2 ∧ oc = .returned none ∧ va_P D vwCl w2 t.heap ∧ va_D (va_A w sz) w2) ∧ va_F (va_A w sz) st t) mc ms (va_A w sz)
theorem zCN_of {y : MethodName} {wl ws' : List Cond} {rm : Room} {ao : List String} {av : List Value} {w : va_W} {post : va_W → Prop} {mc ms : Nat} {maxL : Nat} {own : String}
    (hy : plainName y.cls = true) (hw : wl = Cond.code y cc maxL none :: ws') (ho : y.cls = own) (hn : y.name = "<init>") (hlen : (lg_sl av).length ≤ maxL)
    (body : ∀ (p : Program) (e : Env) (s : State) (m : MethodId) (args : Array Value) (below : List Frame) (meth : Method) (c : Code) (Q : State → Prop) (ls : Array Slot) (A : Nat → Prop), CallFix p m c cc maxL s args wl own → meth.name = "<init>" → (∀ q : Nat, s.heap.size ≤ q → A q) → va_K D vwCl tys s → (∀ C ∈ ao, va_AO C s) → va_P D vwCl w s.heap → va_D A w →
      (∀ (w2 : va_W) (H : Heap) (locs : List Loc) (pc : Nat) (ls' : Array Slot), post w2 → decode cc pc = .ok (.return_, 1) → va_P D vwCl w2 H → va_D A w2 → va_S A s.heap H locs → W p l e rm s m args below meth c H locs mc ms Q (F0 m pc ls' [])) → va_S A s.heap s.heap [] → lv_has ls maxL (lv_args 0 av) → W p l e rm s m args below meth c s.heap [] 0 0 Q (F0 m 0 ls [])) : zCN l y wl rm D tys ao av w post mc ms := by
  intro sz
  refine Met.ofW (cc := cc) (maxL := maxL) (ret := none) hy hw ?_
  intro p e s m args below meth c s₁ B hml hv
  obtain ⟨rfl, hsz, hP, hK, hD0, hao⟩ := hv
  have hts := atoms_spec (ws := wl) B.pre
  have hown : s.vm.findClass y.cls = some m.cls := findClass_of_methodNamed B.named
  rw [ho] at hown
  have hl := lv_entry av (n := maxL) hlen
  rw [lg_entry_eq]
  subst hsz
  exact body p e s m _ below meth c _ _ (va_A w s.heap.size) ⟨B.exec, B.bytes, hml, hown, hts⟩ ((name_of_methodNamed B.named B.method).1.trans hn) (fun q h => Or.inr h) hK hao hP (hD0.self (sz := s.heap.size)) (fun w2 H locs pc ls' hpo hdg hP' hD' hS' => W.vret B.exec B.bytes B.returns (fun t ht hW => ⟨⟨w2, hpo, rfl, by rw [ht]; exact hP', hD'⟩, hS'.F ht⟩) hS'.2.2 hdg B.notSynchronized) va_S.rf hl
variable {y : MethodName} {bytes : ByteArray} {maxL nL index : Nat} {wl wl' : List Cond} {rm : Room} {Ts : List Cond} {own : String} {b : Nat}
/-- 'new', then its constructor: the made cells stand in front of the others -/
theorem zI {ao : List String} {post : va_W → Prop} {mc ms : Nat} {cell : Nat × va_E} (E : CallFix p m c cc nL s args Ts own) (hC0 : zCN l y wl rm D tys ao [.ref b] [cell] post mc ms) (hG : GoodIn Ts wl) (hw : wl = Cond.code y bytes maxL none :: wl') (hrc : rm.cells = mc) (hrs : rm.slots = ms)
    (hini : (Cond.initialized y.cls).before args s = true) (hlk : (Cond.methodLink own index y).before args s = true) (hin : (Cond.instanceMethod y).before args s = true) (hy1 : y.name = "<init>") (hd : y.cls ≠ "java/lang/invoke/MethodHandle" ∧ y.cls ≠ "java/lang/invoke/VarHandle" ∧ (parseMethodDescriptor y.desc).map (fun d => d.parameters.length) = some 0) (hR0 : rm.frames + 1 ≤ R.frames ∧ 8 + (maxL + 11) + rm.locals ≤ R.locals)
    (hK : va_K D vwCl tys s) (hao : ∀ C ∈ ao, va_AO C s) (hP : va_P D vwCl (wr ++ [cell]) H) (hD : va_D A (wr ++ [cell])) (hS : va_S A s.heap H locs) (hA : ∀ q : Nat, s.heap.size ≤ q → A q)
    (hsz : ls.size = nL) (hst : st0 = .ref b :: rest) (hrm : (rest.map fun v => v.category).sum ≤ 8) (hdg : decode cc pc = .ok (.invokespecial index, 3)) (hf : cells + mc ≤ R.cells ∧ slots + ms ≤ R.slots)
    (kk : ∀ (w1 : va_W), post w1 → ∀ (H1 : Heap) (locs1 : List Loc), va_P D vwCl (w1 ++ wr) H1 → va_D A (w1 ++ wr) → va_S A s.heap H1 locs1 → W p l e R s m args below meth c H1 locs1 (cells + mc) (slots + ms) Q (F0 m (pc + 3) ls rest)) : W p l e R s m args below meth c H locs cells slots Q (F0 m pc ls st0) := by
  have h1 : (wr ++ [cell]).Perm ([cell] ++ wr) := List.perm_append_comm
  have hP1 := zP_perm h1 hP
  have hD1 := zD_perm h1 hD
  have hPc : va_P D vwCl [cell] H := zP_iff.mpr fun q hq => zP_iff.mp hP1 q (List.mem_append_left _ hq)
  have hDc : va_D (fun _ => True) [cell] := by
    have h3 := zD_iff.mp hD1
    rw [List.map_append, List.nodup_append] at h3
    exact zD_iff.mpr ⟨h3.1.1, fun _ _ => trivial⟩
  have hr := va_runI (g := F0 m pc ls st0) (rest := rest) (locs := locs) (cells := cells) (slots := slots) (below := below) (meth := meth) (e := e) E (hC0 H.size) (cwI 0 E.2.2.2.2 hG hw hrc hrs hini hlk hin hy1 hd hR0) ⟨fun a U g mk q => by
    obtain ⟨q0, q1, qP, qK, qD, qa⟩ := q
    exact ⟨q0, q1, qP, va_K.moved (u := U) (U := U.calling g mk a) (Vm.Alike.refl U.vm) qK, qD, qa⟩, fun U hU hW => ⟨rfl, by rw [hU], by rw [hU]; exact hPc, va_K.moved hW.alike hK, hDc, fun C hC => (hao C hC).moved hW.alike⟩⟩ rfl rfl hsz hst (lv_room hrm) hdg hf
  intro T hT X
  obtain ⟨v, st₀, t, T', L, h0, X', hL, e1, e2, ⟨⟨w1, hpo, hv, hP2, hD2⟩, hz, hk⟩, st⟩ := hr T hT X
  cases hv
  rw [h0] at hz hk
  have hPa := zP_iff.mp hP1
  have hDa := zD_iff.mp hD1
  rw [List.map_append, List.nodup_append] at hDa
  obtain ⟨⟨n1, n2, n3⟩, hDA⟩ := hDa
  have hFc : ∀ q, va_A [cell] H.size q → A q := by
    intro q hq
    rcases zA_iff.mp hq with ⟨x, hx, rfl⟩ | hq
    · exact hDA x (List.mem_append_left _ hx)
    · exact hA q (Nat.le_trans hS.1 hq)
  have hout : ∀ x ∈ wr, x.1 < H.size ∧ ¬ va_A [cell] H.size x.1 := by
    intro x hx
    have hlt := (hPa x (List.mem_append_right _ hx)).lt
    refine ⟨hlt, fun hq => ?_⟩
    rcases zA_iff.mp hq with ⟨z, hz1, hz2⟩ | hq
    · exact n3 _ (List.mem_map_of_mem (f := Prod.fst) hz1) _ (List.mem_map_of_mem (f := Prod.fst) hx) hz2
    · omega
  have hD2' := zD_iff.mp hD2
  obtain ⟨t2, a1, b1⟩ := kk w1 hpo T'.heap (locs ++ L) (by
      rw [e1]
      exact zP_iff.mpr fun q hq => (List.mem_append.mp hq).elim (fun h => zP_iff.mp hP2 q h) (fun h => (hPa q (List.mem_append_right _ h)).kept (hk q.1 (hout q h).1 (hout q h).2))) (by
      rw [zD_iff, List.map_append, List.nodup_append]
      refine ⟨⟨hD2'.1, n2, fun a ha b hb hab => ?_⟩, fun q hq => (List.mem_append.mp hq).elim (fun h => hFc _ (hD2'.2 q h)) (fun h => hDA q (List.mem_append_right _ h))⟩
      obtain ⟨x, hx, rfl⟩ := List.mem_map.mp ha
      obtain ⟨z, hz1, rfl⟩ := List.mem_map.mp hb
      exact (hout z hz1).2 (hab ▸ hD2'.2 x hx))
    ⟨Nat.le_trans hS.1 (by rw [e1]; exact hz), fun q g1 g2 => by rw [e1, hk q (Nat.lt_of_lt_of_le g1 hS.1) (fun z => g2 (hFc q z))]; exact hS.2.1 q g1 g2, fun q hq => by
      rcases List.mem_append.mp hq with h | h
      · exact hS.2.2 q h
      · exact hFc _ (hL q h)⟩ T' rfl X'
  exact ⟨t2, st t2 a1, b1⟩
end ZN
theorem zperm3 {α : Type} (a b c : List α) : ((a ++ b) ++ c).Perm ((a ++ c) ++ b) := by
  rw [List.append_assoc, List.append_assoc]
  exact (List.perm_append_comm (l₁ := b) (l₂ := c)).append_left a
