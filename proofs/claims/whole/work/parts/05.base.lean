/-! worlds up to their order; worlds with a tail -/
theorem zP_iff {D : va_G} {cl : List vw_C} {w : va_W} {H : Heap} : va_P D cl w H ↔ ∀ q ∈ w, va_at D cl q H := by
  constructor
  · intro h q hq
    obtain ⟨k, hk⟩ := List.getElem?_of_mem hq
    exact h k q hk
  · intro h k q hk
    exact h q (List.mem_of_getElem? hk)
theorem zD_iff {A : Nat → Prop} {w : va_W} : va_D A w ↔ (w.map Prod.fst).Nodup ∧ ∀ q ∈ w, A q.1 := by
  constructor
  · rintro ⟨h1, h2⟩
    refine ⟨?_, fun q hq => ?_⟩
    · unfold List.Nodup
      rw [List.pairwise_iff_getElem]
      intro i j hi hj hij he
      have hi' : i < w.length := by simpa using hi
      have hj' : j < w.length := by simpa using hj
      simp only [List.getElem_map] at he
      have := h1 i j _ _ (List.getElem?_eq_getElem hi') (List.getElem?_eq_getElem hj') he
      omega
    · obtain ⟨k, hk⟩ := List.getElem?_of_mem hq
      exact h2 k q hk
  · rintro ⟨h1, h2⟩
    refine ⟨fun i j p q hi hj he => ?_, fun k q hk => h2 q (List.mem_of_getElem? hk)⟩
    unfold List.Nodup at h1
    rw [List.pairwise_iff_getElem] at h1
    obtain ⟨hi', ei⟩ := List.getElem?_eq_some_iff.mp hi
    obtain ⟨hj', ej⟩ := List.getElem?_eq_some_iff.mp hj
    rcases Nat.lt_trichotomy i j with h | h | h
    · exact (h1 i j (by simpa using hi') (by simpa using hj') h (by rw [List.getElem_map, List.getElem_map, ei, ej]; exact he)).elim
    · exact h
    · exact (h1 j i (by simpa using hj') (by simpa using hi') h (by rw [List.getElem_map, List.getElem_map, ei, ej]; exact he.symm)).elim
theorem zP_perm {D : va_G} {cl : List vw_C} {w w2 : va_W} {H : Heap} (h : w.Perm w2) (hP : va_P D cl w H) : va_P D cl w2 H := zP_iff.mpr fun q hq => zP_iff.mp hP q (h.mem_iff.mpr hq)
theorem zD_perm {A : Nat → Prop} {w w2 : va_W} (h : w.Perm w2) (hD : va_D A w) : va_D A w2 := by
  rw [zD_iff] at hD ⊢
  exact ⟨(h.map Prod.fst).nodup_iff.mp hD.1, fun q hq => hD.2 q (h.mem_iff.mpr hq)⟩
theorem zA_iff {w : va_W} {sz q : Nat} : va_A w sz q ↔ (∃ x ∈ w, x.1 = q) ∨ sz ≤ q := by
  constructor
  · rintro (⟨k, e, h⟩ | h)
    · exact Or.inl ⟨_, List.mem_of_getElem? h, rfl⟩
    · exact Or.inr h
  · rintro (⟨x, h, rfl⟩ | h)
    · obtain ⟨k, hk⟩ := List.getElem?_of_mem h
      exact Or.inl ⟨k, x.2, hk⟩
    · exact Or.inr h
theorem zA_perm {w w2 : va_W} {sz : Nat} (h : w.Perm w2) : va_A w sz = va_A w2 sz := by
  funext q
  apply propext
  rw [zA_iff, zA_iff]
  constructor
  · rintro (⟨x, h1, h2⟩ | h1)
    · exact Or.inl ⟨x, h.mem_iff.mp h1, h2⟩
    · exact Or.inr h1
  · rintro (⟨x, h1, h2⟩ | h1)
    · exact Or.inl ⟨x, h.mem_iff.mpr h1, h2⟩
    · exact Or.inr h1
theorem zCW_perm {l : Launch} {y : MethodName} {wl : List Cond} {rm : Room} {D : va_G} {tys : List (ClassId × FieldType)} {av : List Value} {w w2 v v2 : va_W} {ret : Option Value} (h : w.Perm v) (h2 : w2.Perm v2) (hC : zCW l y wl rm D tys av w w2 ret) : zCW l y wl rm D tys av v v2 ret := by
  intro sz
  have hM := hC sz
  have e1 : va_A w sz = va_A v sz := zA_perm h
  have e2 : (fun U : State => U.heap.size = sz ∧ va_P D vwCl w U.heap ∧ va_K D vwCl tys U ∧ va_D (fun _ => True) w) = (fun U : State => U.heap.size = sz ∧ va_P D vwCl v U.heap ∧ va_K D vwCl tys U ∧ va_D (fun _ => True) v) := by
    funext U
    apply propext
    exact ⟨fun ⟨a, b, c, d⟩ => ⟨a, zP_perm h b, c, zD_perm h d⟩, fun ⟨a, b, c, d⟩ => ⟨a, zP_perm h.symm b, c, zD_perm h.symm d⟩⟩
  have e3 : (fun (_ : Array Value) (st : State) (oc : Outcome) (t : State) => (oc = .returned ret ∧ va_P D vwCl w2 t.heap ∧ va_D (va_A v sz) w2) ∧ va_F (va_A v sz) st t) = (fun (_ : Array Value) (st : State) (oc : Outcome) (t : State) => (oc = .returned ret ∧ va_P D vwCl v2 t.heap ∧ va_D (va_A v sz) v2) ∧ va_F (va_A v sz) st t) := by
    funext a st oc t
    apply propext
    exact ⟨fun ⟨⟨a, b, c⟩, d⟩ => ⟨⟨a, zP_perm h2 b, zD_perm h2 c⟩, d⟩, fun ⟨⟨a, b, c⟩, d⟩ => ⟨⟨a, zP_perm h2.symm b, zD_perm h2.symm c⟩, d⟩⟩
  rw [e1, e2, e3] at hM
  exact hM
/-- a list by its places is that list in another order -/
theorem zperm_of {α : Type} {w x : List α} (is : List Nat) (hp : is.Perm (List.range w.length)) (hs : is.map (fun i => w[i]?) = x.map some) : x.Perm w := by
  have h1 : (is.map (fun i => w[i]?)).Perm ((List.range w.length).map (fun i => w[i]?)) := hp.map _
  have h2 : (List.range w.length).map (fun i => w[i]?) = w.map some := by
    apply List.ext_getElem
    · simp
    · intro i h3 h4
      simp at h3
      simp [h3]
  rw [hs, h2] at h1
  have h5 := h1.filterMap id
  simpa using h5
section ZT
variable {p : Program} {l : Launch} {e : Env} {R : Room} {s : State} {m : MethodId} {args : Array Value} {below : List Frame} {meth : Method} {c : Code} {H : Heap} {locs : List Loc} {cells slots : Nat} {Q : State → Prop}
variable {pc : Nat} {ls : Array Slot} {rest st0 : List Value} {A : Nat → Prop} {D : va_G} {tys : List (ClassId × FieldType)} {ws wc wr w1 w2 : va_W} {ret : Option Value}
/-- behind a call: the world is the callee's and the rest, in any order -/
theorem zcallP {mc ms : Nat} (hr : va_Run p l e R s m args below meth c H locs cells slots mc ms (F0 m pc ls st0) rest (fun st oc t => (oc = .returned ret ∧ va_P D vwCl w1 t.heap ∧ va_D (va_A wc H.size) w1) ∧ va_F (va_A wc H.size) st t) (va_A wc H.size))
    (hP : va_P D vwCl ws H) (hD : va_D A ws) (hS : va_S A s.heap H locs) (hA : ∀ q : Nat, s.heap.size ≤ q → A q) (h1 : ws.Perm (wc ++ wr)) (h2 : (w1 ++ wr).Perm w2)
    (kk : ∀ (H1 : Heap) (locs1 : List Loc), va_P D vwCl w2 H1 → va_D A w2 → va_S A s.heap H1 locs1 → W p l e R s m args below meth c H1 locs1 (cells + mc) (slots + ms) Q (F0 m (pc + 3) ls (ret.toList ++ rest))) : W p l e R s m args below meth c H locs cells slots Q (F0 m pc ls st0) := by
  intro T hT X
  obtain ⟨v, st₀, t, T', L, h0, X', hL, e1, e2, ⟨⟨hv, hP1, hD1⟩, hz, hk⟩, st⟩ := hr T hT X
  cases hv
  rw [h0] at hz hk
  have hPc := zP_iff.mp (zP_perm h1 hP)
  have hDc := zD_iff.mp (zD_perm h1 hD)
  rw [List.map_append, List.nodup_append] at hDc
  obtain ⟨⟨n1, n2, n3⟩, hDA⟩ := hDc
  have hFc : ∀ q, va_A wc H.size q → A q := by
    intro q hq
    rcases zA_iff.mp hq with ⟨x, hx, rfl⟩ | hq
    · exact hDA x (List.mem_append_left _ hx)
    · exact hA q (Nat.le_trans hS.1 hq)
  have hout : ∀ x ∈ wr, x.1 < H.size ∧ ¬ va_A wc H.size x.1 := by
    intro x hx
    have hlt := (hPc x (List.mem_append_right _ hx)).lt
    refine ⟨hlt, fun hq => ?_⟩
    rcases zA_iff.mp hq with ⟨z, hz1, hz2⟩ | hq
    · exact n3 _ (List.mem_map_of_mem (f := Prod.fst) hz1) _ (List.mem_map_of_mem (f := Prod.fst) hx) hz2
    · omega
  have hD1' := zD_iff.mp hD1
  obtain ⟨t2, a1, b1⟩ := kk T'.heap (locs ++ L) (zP_perm h2 (by
      rw [e1]
      exact zP_iff.mpr fun q hq => (List.mem_append.mp hq).elim (fun h => zP_iff.mp hP1 q h) (fun h => (hPc q (List.mem_append_right _ h)).kept (hk q.1 (hout q h).1 (hout q h).2)))) (zD_perm h2 (by
      rw [zD_iff, List.map_append, List.nodup_append]
      refine ⟨⟨hD1'.1, n2, fun a ha b hb hab => ?_⟩, fun q hq => (List.mem_append.mp hq).elim (fun h => hFc _ (hD1'.2 q h)) (fun h => hDA q (List.mem_append_right _ h))⟩
      obtain ⟨x, hx, rfl⟩ := List.mem_map.mp ha
      obtain ⟨z, hz1, rfl⟩ := List.mem_map.mp hb
      exact (hout z hz1).2 (hab ▸ hD1'.2 x hx)))
    ⟨Nat.le_trans hS.1 (by rw [e1]; exact hz), fun q g1 g2 => by rw [e1, hk q (Nat.lt_of_lt_of_le g1 hS.1) (fun z => g2 (hFc q z))]; exact hS.2.1 q g1 g2, fun q hq => by
      rcases List.mem_append.mp hq with h | h
      · exact hS.2.2 q h
      · exact hFc _ (hL q h)⟩ T' rfl X'
  exact ⟨t2, st t2 a1, b1⟩
variable {y : MethodName} {bytes cc : ByteArray} {maxL nL index : Nat} {rt : Option FieldType} {wl wl' : List Cond} {rm : Room} {Ts : List Cond} {own C : String} {b : Nat} {As : List Value}
/-- invokevirtual of a method that changes cells; worlds in any order -/
theorem zVP (E : CallFix p m c cc nL s args Ts own) (hC0 : zCW l y wl rm D tys (.ref b :: As) wc w1 ret) (n : Nat) (hG : GoodIn Ts (wsV own index C y wl)) (hw : wl = Cond.code y bytes maxL rt :: wl') (hrc : rm.cells = 0) (hrs : rm.slots = 0)
    (hd : y.cls = C ∧ y.cls ≠ "java/lang/invoke/MethodHandle" ∧ y.cls ≠ "java/lang/invoke/VarHandle" ∧ (parseMethodDescriptor y.desc).map (fun d => d.parameters.length) = some n) (hR0 : rm.frames + 1 ≤ R.frames ∧ 8 + (maxL + 11) + rm.locals ≤ R.locals)
    (hK : va_K D vwCl tys s) (hP : va_P D vwCl ws H) (hD : va_D A ws) (hS : va_S A s.heap H locs) (hA : ∀ q : Nat, s.heap.size ≤ q → A q) (h1 : ws.Perm (wc ++ wr)) (h2 : (w1 ++ wr).Perm w2) (q0 ci : Nat) {fs : List Value} {q : vw_C} (hc : vwCl[ci]? = some q) (hq : q.1 = C) (he : wc[q0]? = some (b, .inr (ci, fs)))
    (hn0 : As.length = n) (hsz : ls.size = nL) (hst : st0 = As.reverse ++ .ref b :: rest) (hrm : (rest.map fun v => v.category).sum ≤ 8) (hdg : decode cc pc = .ok (.invokevirtual index, 3)) (hf : cells + 0 ≤ R.cells ∧ slots + 0 ≤ R.slots)
    (kk : ∀ (H1 : Heap) (locs1 : List Loc), va_P D vwCl w2 H1 → va_D A w2 → va_S A s.heap H1 locs1 → W p l e R s m args below meth c H1 locs1 cells slots Q (F0 m (pc + 3) ls (ret.toList ++ rest))) : W p l e R s m args below meth c H locs cells slots Q (F0 m pc ls st0) := by
  have hPc : va_P D vwCl wc H := zP_iff.mpr fun q hq => zP_iff.mp (zP_perm h1 hP) q (List.mem_append_left _ hq)
  have hDc : va_D (fun _ => True) wc := by
    have h3 := zD_iff.mp (zD_perm h1 hD)
    rw [List.map_append, List.nodup_append] at h3
    exact zD_iff.mpr ⟨h3.1.1, fun _ _ => trivial⟩
  exact zcallP (va_runV E (hC0 H.size) (cwV n E.2.2.2.2 hG hw hrc hrs hd hR0) ⟨zblind, by rw [← hq]; exact va_recv hK hPc hc he, fun U hU hW => ⟨rfl, by rw [hU], by rw [hU]; exact hPc, va_K.moved hW.alike hK, hDc⟩⟩ rfl hn0 hsz hst (lv_room hrm) hdg hf) hP hD hS hA h1 h2 kk
/-- the same, where the world has a tail T that the callee doesn't know -/
theorem zVT {T : va_W} (E : CallFix p m c cc nL s args Ts own) (hC0 : zCW l y wl rm D tys (.ref b :: As) wc w1 ret) (n : Nat) (hG : GoodIn Ts (wsV own index C y wl)) (hw : wl = Cond.code y bytes maxL rt :: wl') (hrc : rm.cells = 0) (hrs : rm.slots = 0)
    (hd : y.cls = C ∧ y.cls ≠ "java/lang/invoke/MethodHandle" ∧ y.cls ≠ "java/lang/invoke/VarHandle" ∧ (parseMethodDescriptor y.desc).map (fun d => d.parameters.length) = some n) (hR0 : rm.frames + 1 ≤ R.frames ∧ 8 + (maxL + 11) + rm.locals ≤ R.locals)
    (hK : va_K D vwCl tys s) (hP : va_P D vwCl (ws ++ T) H) (hD : va_D A (ws ++ T)) (hS : va_S A s.heap H locs) (hA : ∀ q : Nat, s.heap.size ≤ q → A q) (n1 : Nat) (i1 : List Nat) (hn1 : ws.length = n1) (hn2 : w2.length = n1) (hp1 : i1.Perm (List.range n1)) (h1 : i1.map (fun i => ws[i]?) = (wc ++ wr).map some) (h2 : i1.map (fun i => w2[i]?) = (w1 ++ wr).map some) (q0 ci : Nat) {fs : List Value} {q : vw_C} (hc : vwCl[ci]? = some q) (hq : q.1 = C) (he : wc[q0]? = some (b, .inr (ci, fs)))
    (hn0 : As.length = n) (hsz : ls.size = nL) (hst : st0 = As.reverse ++ .ref b :: rest) (hrm : (rest.map fun v => v.category).sum ≤ 8) (hdg : decode cc pc = .ok (.invokevirtual index, 3)) (hf : cells + 0 ≤ R.cells ∧ slots + 0 ≤ R.slots)
    (kk : ∀ (H1 : Heap) (locs1 : List Loc), va_P D vwCl (w2 ++ T) H1 → va_D A (w2 ++ T) → va_S A s.heap H1 locs1 → W p l e R s m args below meth c H1 locs1 cells slots Q (F0 m (pc + 3) ls (ret.toList ++ rest))) : W p l e R s m args below meth c H locs cells slots Q (F0 m pc ls st0) :=
  zVP (wr := wr ++ T) E hC0 n hG hw hrc hrs hd hR0 hK hP hD hS hA (by rw [← List.append_assoc]; exact ((zperm_of i1 (by rw [hn1]; exact hp1) h1).symm.append_right T)) (by rw [← List.append_assoc]; exact ((zperm_of i1 (by rw [hn2]; exact hp1) h2).append_right T)) q0 ci hc hq he hn0 hsz hst hrm hdg hf kk
/-- the same, where the tail is the callee's too, and it may change it -/
theorem zVTT {T T1 : va_W} (E : CallFix p m c cc nL s args Ts own) (hC0 : zCW l y wl rm D tys (.ref b :: As) (wc ++ T) (w1 ++ T1) ret) (n : Nat) (hG : GoodIn Ts (wsV own index C y wl)) (hw : wl = Cond.code y bytes maxL rt :: wl') (hrc : rm.cells = 0) (hrs : rm.slots = 0)
    (hd : y.cls = C ∧ y.cls ≠ "java/lang/invoke/MethodHandle" ∧ y.cls ≠ "java/lang/invoke/VarHandle" ∧ (parseMethodDescriptor y.desc).map (fun d => d.parameters.length) = some n) (hR0 : rm.frames + 1 ≤ R.frames ∧ 8 + (maxL + 11) + rm.locals ≤ R.locals)
    (hK : va_K D vwCl tys s) (hP : va_P D vwCl (ws ++ T) H) (hD : va_D A (ws ++ T)) (hS : va_S A s.heap H locs) (hA : ∀ q : Nat, s.heap.size ≤ q → A q) (n1 : Nat) (i1 : List Nat) (hn1 : ws.length = n1) (hn2 : w2.length = n1) (hp1 : i1.Perm (List.range n1)) (h1 : i1.map (fun i => ws[i]?) = (wc ++ wr).map some) (h2 : i1.map (fun i => w2[i]?) = (w1 ++ wr).map some) (q0 ci : Nat) {fs : List Value} {q : vw_C} (hc : vwCl[ci]? = some q) (hq : q.1 = C) (he : (wc ++ T)[q0]? = some (b, .inr (ci, fs)))
    (hn0 : As.length = n) (hsz : ls.size = nL) (hst : st0 = As.reverse ++ .ref b :: rest) (hrm : (rest.map fun v => v.category).sum ≤ 8) (hdg : decode cc pc = .ok (.invokevirtual index, 3)) (hf : cells + 0 ≤ R.cells ∧ slots + 0 ≤ R.slots)
    (kk : ∀ (H1 : Heap) (locs1 : List Loc), va_P D vwCl (w2 ++ T1) H1 → va_D A (w2 ++ T1) → va_S A s.heap H1 locs1 → W p l e R s m args below meth c H1 locs1 cells slots Q (F0 m (pc + 3) ls (ret.toList ++ rest))) : W p l e R s m args below meth c H locs cells slots Q (F0 m pc ls st0) := by
  have e1 : ∀ (x y z : va_W), ((x ++ z) ++ y).Perm ((x ++ y) ++ z) := fun x y z => by
    rw [List.append_assoc, List.append_assoc]
    exact (List.perm_append_comm (l₁ := z) (l₂ := y)).append_left x
  exact zVP (wr := wr) E hC0 n hG hw hrc hrs hd hR0 hK hP hD hS hA (((zperm_of i1 (by rw [hn1]; exact hp1) h1).symm.append_right T).trans (e1 wc T wr)) ((e1 w1 wr T1).trans ((zperm_of i1 (by rw [hn2]; exact hp1) h2).append_right T1)) q0 ci hc hq he hn0 hsz hst hrm hdg hf kk
end ZT

/-! the ring of what was: sixteen states, each six cells, behind the others -/
abbrev zSA : Type := Nat × Nat × Nat × Nat × Nat × Nat
abbrev zSV : Type := Int32 × Int32 × Int32 × Int32 × (Nat → Int32) × (Nat → Int32) × (Nat → Int32) × Int32 × (Nat → Int32)
def zSt (cI : ClassId) (a : zSA) (v : zSV) : va_W := [(a.1, .inr (6, [.int v.1, .int v.2.1, .int v.2.2.1, .int v.2.2.2.1, .ref a.2.1, .ref a.2.2.1, .ref a.2.2.2.1, .ref a.2.2.2.2.1])), (a.2.1, .inl (cI, 12, .inl v.2.2.2.2.1)), (a.2.2.1, .inl (cI, 12, .inl v.2.2.2.2.2.1)), (a.2.2.2.1, .inl (cI, 36, .inl v.2.2.2.2.2.2.1)), (a.2.2.2.2.1, .inr (5, [.ref a.2.2.2.2.2, .int v.2.2.2.2.2.2.2.1])), (a.2.2.2.2.2, .inl (cI, 12, .inl v.2.2.2.2.2.2.2.2))]
def zRingN (cI : ClassId) (ra : Nat → zSA) (rg : Nat → zSV) (n : Nat) : va_W := (List.range n).flatMap (fun i => zSt cI (ra i) (rg i))
def zRing (cI : ClassId) (ra : Nat → zSA) (rg : Nat → zSV) : va_W := zRingN cI ra rg 16
def zRest (cI : ClassId) (ra : Nat → zSA) (rg : Nat → zSV) (j : Nat) : va_W := ((List.range 16).erase j).flatMap (fun i => zSt cI (ra i) (rg i))
theorem zRing_pick {cI : ClassId} {ra : Nat → zSA} {rg : Nat → zSV} {j : Nat} (hj : j < 16) : (zRing cI ra rg).Perm (zSt cI (ra j) (rg j) ++ zRest cI ra rg j) := by
  have h1 : (List.range 16).Perm (j :: (List.range 16).erase j) := List.perm_cons_erase (List.mem_range.mpr hj)
  have h2 := h1.flatMap_right (fun i => zSt cI (ra i) (rg i))
  exact h2
theorem zRest_up {cI : ClassId} {ra : Nat → zSA} {rg : Nat → zSV} {j : Nat} {v : zSV} : zRest cI ra (va_up rg j v) j = zRest cI ra rg j := by
  unfold zRest
  rw [List.flatMap_def, List.flatMap_def]
  congr 1
  apply List.map_congr_left
  intro i hi
  have h1 : i ≠ j := fun h => by
    subst h
    exact (List.nodup_range.not_mem_erase) hi
  simp only [va_up, if_neg h1]
theorem zRing_put {cI : ClassId} {ra : Nat → zSA} {rg : Nat → zSV} {j : Nat} {v : zSV} (hj : j < 16) : (zRing cI ra (va_up rg j v)).Perm (zSt cI (ra j) v ++ zRest cI ra rg j) := by
  have h := zRing_pick (cI := cI) (ra := ra) (rg := va_up rg j v) hj
  rw [zRest_up] at h
  simpa [va_up] using h
def ob9 {A1 A2 A3 A4 A5 A6 A7 A8 A9 ρ : Type} (a : Option (A1 × A2 × A3 × A4 × A5 × A6 × A7 × A8 × A9)) (b : A1 → A2 → A3 → A4 → A5 → A6 → A7 → A8 → A9 → Option ρ) : Option ρ := match a with
  | none => none
  | some x => b x.1 x.2.1 x.2.2.1 x.2.2.2.1 x.2.2.2.2.1 x.2.2.2.2.2.1 x.2.2.2.2.2.2.1 x.2.2.2.2.2.2.2.1 x.2.2.2.2.2.2.2.2
theorem ob9_e {A1 A2 A3 A4 A5 A6 A7 A8 A9 ρ : Type} {a : Option (A1 × A2 × A3 × A4 × A5 × A6 × A7 × A8 × A9)} {b : A1 → A2 → A3 → A4 → A5 → A6 → A7 → A8 → A9 → Option ρ} {r : ρ} (h : ob9 a b = some r) : ∃ x0 x1 x2 x3 x4 x5 x6 x7 x8, a = some (x0, x1, x2, x3, x4, x5, x6, x7, x8) ∧ b x0 x1 x2 x3 x4 x5 x6 x7 x8 = some r := by
  cases a with
  | none => cases h
  | some x => exact ⟨_, _, _, _, _, _, _, _, _, rfl, h⟩
def ob10 {A1 A2 A3 A4 A5 A6 A7 A8 A9 A10 ρ : Type} (a : Option (A1 × A2 × A3 × A4 × A5 × A6 × A7 × A8 × A9 × A10)) (b : A1 → A2 → A3 → A4 → A5 → A6 → A7 → A8 → A9 → A10 → Option ρ) : Option ρ := match a with
  | none => none
  | some x => b x.1 x.2.1 x.2.2.1 x.2.2.2.1 x.2.2.2.2.1 x.2.2.2.2.2.1 x.2.2.2.2.2.2.1 x.2.2.2.2.2.2.2.1 x.2.2.2.2.2.2.2.2.1 x.2.2.2.2.2.2.2.2.2
theorem ob10_e {A1 A2 A3 A4 A5 A6 A7 A8 A9 A10 ρ : Type} {a : Option (A1 × A2 × A3 × A4 × A5 × A6 × A7 × A8 × A9 × A10)} {b : A1 → A2 → A3 → A4 → A5 → A6 → A7 → A8 → A9 → A10 → Option ρ} {r : ρ} (h : ob10 a b = some r) : ∃ x0 x1 x2 x3 x4 x5 x6 x7 x8 x9, a = some (x0, x1, x2, x3, x4, x5, x6, x7, x8, x9) ∧ b x0 x1 x2 x3 x4 x5 x6 x7 x8 x9 = some r := by
  cases a with
  | none => cases h
  | some x => exact ⟨_, _, _, _, _, _, _, _, _, _, rfl, h⟩
def ob11 {A1 A2 A3 A4 A5 A6 A7 A8 A9 A10 A11 ρ : Type} (a : Option (A1 × A2 × A3 × A4 × A5 × A6 × A7 × A8 × A9 × A10 × A11)) (b : A1 → A2 → A3 → A4 → A5 → A6 → A7 → A8 → A9 → A10 → A11 → Option ρ) : Option ρ := match a with
  | none => none
  | some x => b x.1 x.2.1 x.2.2.1 x.2.2.2.1 x.2.2.2.2.1 x.2.2.2.2.2.1 x.2.2.2.2.2.2.1 x.2.2.2.2.2.2.2.1 x.2.2.2.2.2.2.2.2.1 x.2.2.2.2.2.2.2.2.2.1 x.2.2.2.2.2.2.2.2.2.2
theorem ob11_e {A1 A2 A3 A4 A5 A6 A7 A8 A9 A10 A11 ρ : Type} {a : Option (A1 × A2 × A3 × A4 × A5 × A6 × A7 × A8 × A9 × A10 × A11)} {b : A1 → A2 → A3 → A4 → A5 → A6 → A7 → A8 → A9 → A10 → A11 → Option ρ} {r : ρ} (h : ob11 a b = some r) : ∃ x0 x1 x2 x3 x4 x5 x6 x7 x8 x9 x10, a = some (x0, x1, x2, x3, x4, x5, x6, x7, x8, x9, x10) ∧ b x0 x1 x2 x3 x4 x5 x6 x7 x8 x9 x10 = some r := by
  cases a with
  | none => cases h
  | some x => exact ⟨_, _, _, _, _, _, _, _, _, _, _, rfl, h⟩
def ob12 {A1 A2 A3 A4 A5 A6 A7 A8 A9 A10 A11 A12 ρ : Type} (a : Option (A1 × A2 × A3 × A4 × A5 × A6 × A7 × A8 × A9 × A10 × A11 × A12)) (b : A1 → A2 → A3 → A4 → A5 → A6 → A7 → A8 → A9 → A10 → A11 → A12 → Option ρ) : Option ρ := match a with
  | none => none
  | some x => b x.1 x.2.1 x.2.2.1 x.2.2.2.1 x.2.2.2.2.1 x.2.2.2.2.2.1 x.2.2.2.2.2.2.1 x.2.2.2.2.2.2.2.1 x.2.2.2.2.2.2.2.2.1 x.2.2.2.2.2.2.2.2.2.1 x.2.2.2.2.2.2.2.2.2.2.1 x.2.2.2.2.2.2.2.2.2.2.2
theorem ob12_e {A1 A2 A3 A4 A5 A6 A7 A8 A9 A10 A11 A12 ρ : Type} {a : Option (A1 × A2 × A3 × A4 × A5 × A6 × A7 × A8 × A9 × A10 × A11 × A12)} {b : A1 → A2 → A3 → A4 → A5 → A6 → A7 → A8 → A9 → A10 → A11 → A12 → Option ρ} {r : ρ} (h : ob12 a b = some r) : ∃ x0 x1 x2 x3 x4 x5 x6 x7 x8 x9 x10 x11, a = some (x0, x1, x2, x3, x4, x5, x6, x7, x8, x9, x10, x11) ∧ b x0 x1 x2 x3 x4 x5 x6 x7 x8 x9 x10 x11 = some r := by
  cases a with
  | none => cases h
  | some x => exact ⟨_, _, _, _, _, _, _, _, _, _, _, _, rfl, h⟩
def ob13 {A1 A2 A3 A4 A5 A6 A7 A8 A9 A10 A11 A12 A13 ρ : Type} (a : Option (A1 × A2 × A3 × A4 × A5 × A6 × A7 × A8 × A9 × A10 × A11 × A12 × A13)) (b : A1 → A2 → A3 → A4 → A5 → A6 → A7 → A8 → A9 → A10 → A11 → A12 → A13 → Option ρ) : Option ρ := match a with
  | none => none
  | some x => b x.1 x.2.1 x.2.2.1 x.2.2.2.1 x.2.2.2.2.1 x.2.2.2.2.2.1 x.2.2.2.2.2.2.1 x.2.2.2.2.2.2.2.1 x.2.2.2.2.2.2.2.2.1 x.2.2.2.2.2.2.2.2.2.1 x.2.2.2.2.2.2.2.2.2.2.1 x.2.2.2.2.2.2.2.2.2.2.2.1 x.2.2.2.2.2.2.2.2.2.2.2.2
theorem ob13_e {A1 A2 A3 A4 A5 A6 A7 A8 A9 A10 A11 A12 A13 ρ : Type} {a : Option (A1 × A2 × A3 × A4 × A5 × A6 × A7 × A8 × A9 × A10 × A11 × A12 × A13)} {b : A1 → A2 → A3 → A4 → A5 → A6 → A7 → A8 → A9 → A10 → A11 → A12 → A13 → Option ρ} {r : ρ} (h : ob13 a b = some r) : ∃ x0 x1 x2 x3 x4 x5 x6 x7 x8 x9 x10 x11 x12, a = some (x0, x1, x2, x3, x4, x5, x6, x7, x8, x9, x10, x11, x12) ∧ b x0 x1 x2 x3 x4 x5 x6 x7 x8 x9 x10 x11 x12 = some r := by
  cases a with
  | none => cases h
  | some x => exact ⟨_, _, _, _, _, _, _, _, _, _, _, _, _, rfl, h⟩
