/-! THE CLAIM OUT OF ONE WALK OF THE LAW'S BODY. Your part is whole_start (and what it stands on); all else here is the same for every law, but numbers. -/
def R_law : String := "SplitClassesLaw"
def lw_P (b : Addr) (xs : List Int32) (args : Array Value) (s : State) : Prop := args = #[.ref b] ∧ s.IntsAt b xs ∧ xs.length ≤ 2048 ∧ (Jvm.Cond.and given_1 narrow_1).before args s = true
def lw_Q (_ : Array Value) (s : State) (o : Outcome) (t : State) : Prop := o = .returned (some (.int 1)) ∧ Framed s o t [] 600000 7302250
def lw_Z (below : List Frame) (a : Array Value) (s : State) : State → Prop := fun t => ∃ o, t.status = .running ∧ Ended t below o ∧ lw_Q a s o t
/-- the law's own end, with 1 on the stack, nothing written that was there before, its room as the claim has it -/
theorem lw_ret {p : Program} {l : Launch} {e : Env} {s : State} {m : MethodId} {below : List Frame} {meth : Method} {c : Code} {b : Nat} (hx : p.tables.exec = Jvm.exec) (hb : c.code = code) (hr : meth.sig.returnType = ret) (hlocks : meth.locks = false) {pc : Nat} {H : Heap} {ls : Array Slot} (hdg : decode code pc = .ok (.ireturn, 1)) : W p l e room_1 s m #[Value.ref b] below meth c H [] 600000 7302250 (lw_Z below #[Value.ref b] s) (F0 m pc ls [.int 1]) := by
  intro T hT X
  obtain ⟨fs, hret, hrun, hended, hW, hframe⟩ := X.leave (v := some (.int 1)) (hlocks := hlocks) (fun h => by rw [hr] at h; cases h)
  have hmeth' : T.vm.method? m = some meth := X.method'
  refine ⟨T.setFrames fs, ?_, .returned (some (.int 1)), hrun, hended, rfl, ⟨_, rfl⟩, hW, hframe⟩
  jvm_step X.here [X.here.top, hx, hb, hdg, hmeth', hr, ret, narrow_b1]
  (try refine ⟨rfl, ?_⟩); (try refine ⟨rfl, ?_⟩)
  first | (intro acts; rw [hret _ acts rfl rfl rfl]) | rw [hret _ _ rfl rfl rfl]
  exact Steps.refl _
/-- what holds at the law's entry: the machine, the code, the tables' words (any of lw_tbl by 'hts w (by decide +kernel)'), the script of L ints xs at the cell b, what the Statement gives of the start (any of its parts by flat_of_before) -/
def lw_At (p : Program) (s : State) (m : MethodId) (meth : Method) (c : Code) (b L : Nat) (xs : Nat → Int32) : Prop :=
  p.tables.exec = Jvm.exec ∧ c.code = code ∧ meth.sig.returnType = ret ∧ c.maxLocals = 4 ∧ s.vm.findClass R_law = some m.cls ∧ (∀ w ∈ lw_tbl, w.before #[Value.ref b] s = true) ∧ va_X b L xs s s.heap ∧ b < s.heap.size ∧ meth.locks = false ∧ (Jvm.Cond.and given_1 narrow_1).before #[Value.ref b] s = true
set_option maxHeartbeats 8000000 in
set_option maxRecDepth 100000 in
theorem whole_open {p : Program} {e : Env} {s : State} {m : MethodId} {below : List Frame} {meth : Method} {c : Code} (l : Launch) (hflags : l.flags = flags0) {b L : Nat} {xs : Nat → Int32} (hL : L ≤ 2048) {Inv : zXV → zMV → Prop} {sv1 sv2 sv3 sv4 : Int32} {sv5 sv6 sv7 : Nat → Int32} {sv8 : Int32} {sv9 : Nat → Int32} (hS0 : fX6_startWith (4 : Int32) 0 0 0 0 (fun _ => 0) (fun _ => 0) (fun _ => 0) 0 (fun _ => 0) = some (sv1, sv2, sv3, sv4, sv5, sv6, sv7, sv8, sv9)) {st' : Nat → Int32} (hL0 : fX9_lays (4 : Int32) 0 0 0 (fun _ => 0) = some st') (h0 : ∀ a : Int32, zStep Inv (x_told a) (m_told a)) (h1 : ∀ a b : Int32, zStep Inv (x_item a b) (m_item a b)) (h2 : ∀ a : Int32, zStep Inv (x_classAt a) (m_classAt a)) (h3 : ∀ a b c : Int32, zStep Inv (x_setBy a b c) (m_setBy a b c)) (h4 : ∀ a b c : Int32, zStep Inv (x_alike a b c) (m_alike a b c)) (h5 : ∀ a b : Int32, zStep Inv (x_apart a b) (m_apart a b)) (h6 : ∀ a b : Int32, zStep Inv (x_search a b) (m_search a b)) (h7 : ∀ a : Int32, zStep Inv (x_items a) (m_items a)) (h8 : ∀ a b c : Int32, zStep Inv (x_edge a b c) (m_edge a b c)) (h9 : ∀ a b : Int32, zStep Inv (x_columns a b) (m_columns a b)) (h10 : ∀ a : Int32, zStep Inv (x_letters a) (m_letters a)) (h11 : ∀ a b c : Int32, zStep Inv (x_goes a b c) (m_goes a b c)) (h12 : ∀ a : Int32, zStep Inv (x_finals a) (m_finals a)) (h13 : zStep Inv (x_begin) (m_begin)) (h14 : ∀ a : Int32, zStep Inv (x_split a) (m_split a)) (h15 : ∀ a b c : Int32, zStep Inv (x_by a b c) (m_by a b c)) (h16 : ∀ a : Int32, zStep Inv (x_refine a) (m_refine a)) (h17 : ∀ a : Int32, zStep Inv (x_join a) (m_join a)) (h18 : zStep Inv (x_arrange) (m_arrange)) (h19 : ∀ a : Int32, zStep Inv (x_drift a) (m_drift a)) (h20 : ∀ a : Int32, zStep Inv (x_undo a) (m_undo a)) (h21 : ∀ a b : Int32, zStep Inv (x_write a b) (m_write a b)) (h22 : zStep Inv (x_tear) (m_tear)) (h23 : ∀ a : Int32, zStep Inv (x_seed a) (m_seed a)) (h24 : ∀ a : Int32, zStep Inv (x_keep a) (m_keep a)) (h25 : ∀ a : Int32, zStep Inv (x_goBack a) (m_goBack a)) (hinit : Inv ((sv1, sv2, sv3, sv4, sv5, sv6, sv7, sv8, sv9), (0, 0), (0, (fun _ => 0), (fun _ => 0)), (0, 0, (sv1, sv2, sv3, sv4, sv5, sv6, sv7, sv8, sv9)), (0, 0, (sv1, sv2, sv3, sv4, sv5, sv6, sv7, sv8, sv9)), (0, (fun _ => 0)), ((fun _ => 0), (fun _ => 0), 0, (fun _ => 0)), (0, (fun _ => 0)), 0, fun _ => (sv1, sv2, sv3, sv4, sv5, sv6, sv7, sv8, sv9)) ((0, 0, 0), (st', (fun _ => 0), (fun _ => 0), (fun _ => 0), (fun _ => 0), (fun _ => 0)), ((fun _ => 0), (fun _ => 0), (fun _ => 0), (fun _ => 0), (fun _ => 0), (fun _ => 0), (fun _ => 0), (fun _ => 0)))) (C0 : lw_At p s m meth c b L xs) : W p l e room_1 s m #[Value.ref b] below meth c s.heap [] 0 0 (lw_Z below #[Value.ref b] s) (entryFrame m ([Value.ref b] : List Value).toArray 4) := by
  obtain ⟨hx, hb, hr, hml, hown, hts, hX, hbl, hlocks, hgv⟩ := C0
  have hb : c.code = cL_law := hb
  have hown : s.vm.findClass RL = some m.cls := hown
  have htL : ∀ w ∈ wsL_law, w.before #[Value.ref b] s = true := fun w h => hts w (wsL_law_in w h)
  have E : CallFix p m c cL_law 4 s #[Value.ref b] wsL_law RL := ⟨hx, hb, hml, hown, htL⟩
  have hA : ∀ q : Nat, s.heap.size ≤ q → (fun q : Nat => s.heap.size ≤ q) q := fun _ h => h
  obtain ⟨c0, iS0, hKn0⟩ := u_known (C := RX0) (T := TX0) (N := 3) (n := 3) hts inX0 (htL (.instantiable RX0 3) (by decide +kernel))
  obtain ⟨c1, iS1, hKn1⟩ := u_known (C := RX1) (T := TX1) (N := 1) (n := 1) hts inX1 (htL (.instantiable RX1 1) (by decide +kernel))
  obtain ⟨c2, iS2, hKn2⟩ := u_known (C := RX2) (T := TX2) (N := 3) (n := 3) hts inX2 (htL (.instantiable RX2 3) (by decide +kernel))
  obtain ⟨c3, iS3, hKn3⟩ := u_known (C := RX3) (T := TX3) (N := 3) (n := 3) hts inX3 (htL (.instantiable RX3 3) (by decide +kernel))
  obtain ⟨c4, iS4, hKn4⟩ := u_known (C := RX4) (T := TX4) (N := 1) (n := 1) hts inX4 (htL (.instantiable RX4 1) (by decide +kernel))
  obtain ⟨c5, iS5, hKn5⟩ := u_known (C := RX5) (T := TX5) (N := 2) (n := 2) hts inX5 (htL (.instantiable RX5 2) (by decide +kernel))
  obtain ⟨c6, iS6, hKn6⟩ := u_known (C := RX6) (T := TX6) (N := 8) (n := 8) hts inX6 (htL (.instantiable RX6 8) (by decide +kernel))
  obtain ⟨c7, iS7, hKn7⟩ := u_known (C := RX7) (T := TX7) (N := 3) (n := 3) hts inX7 (htL (.instantiable RX7 3) (by decide +kernel))
  obtain ⟨c8, iS8, hKn8⟩ := u_known (C := RX8) (T := TX8) (N := 8) (n := 8) hts inX8 (htL (.instantiable RX8 8) (by decide +kernel))
  obtain ⟨c9, iS9, hKn9⟩ := u_known (C := RX9) (T := TX9) (N := 17) (n := 17) hts inX9 (htL (.instantiable RX9 17) (by decide +kernel))
  obtain ⟨D, hKc⟩ : ∃ D : va_G, ∀ (k : Nat) (q : vw_C), vwCl[k]? = some q → u_Kn s q.1 q.2.1 q.2.2 (D.1 k) (D.2 k) := by
    refine ⟨(fun k => [c0, c1, c2, c3, c4, c5, c6, c7, c8, c9].getD k c0, fun k => [iS0, iS1, iS2, iS3, iS4, iS5, iS6, iS7, iS8, iS9].getD k iS0), ?_⟩
    intro k q hq
    match k, hq with
    | 0, hq => cases hq; exact hKn0
    | 1, hq => cases hq; exact hKn1
    | 2, hq => cases hq; exact hKn2
    | 3, hq => cases hq; exact hKn3
    | 4, hq => cases hq; exact hKn4
    | 5, hq => cases hq; exact hKn5
    | 6, hq => cases hq; exact hKn6
    | 7, hq => cases hq; exact hKn7
    | 8, hq => cases hq; exact hKn8
    | 9, hq => cases hq; exact hKn9
    | k + 10, hq => simp [vwCl] at hq
  obtain ⟨cI, kI, qI, i1, i2, i3⟩ := Cond.arrayClass_spec (htL (.arrayClass .int) (by decide +kernel))
  obtain ⟨cZ, kZ, qZ, z1, z2, z3⟩ := Cond.arrayClass_spec (htL (.arrayClass .boolean) (by decide +kernel))
  have aoM : va_AO "SplitClasses$Image" s := va_AO.of (hts (.arrayOver (.object "SplitClasses$Image")) (by decide +kernel))
  have aoS : va_AO "SplitClasses$State" s := va_AO.of (hts (.arrayOver (.object "SplitClasses$State")) (by decide +kernel))
  obtain ⟨qM, cM, kM, m1, -, m2, m3, m4⟩ := Cond.arrayOver_spec aoM
  obtain ⟨qS, cS, kS, s1, -, s2, s3, s4⟩ := Cond.arrayOver_spec aoS
  have hK : va_K D vwCl (zTy cI cZ cM cS) s := by
    refine ⟨hKc, fun k q hq => ?_⟩
    match k, hq with
    | 0, hq => cases hq; exact ⟨fun N y => ⟨(fun k h => by cases h), kI, i2, qI, i3⟩, i1⟩
    | 1, hq => cases hq; exact ⟨fun N y => ⟨(fun k h => by cases h), kZ, z2, qZ, z3⟩, z1⟩
    | 2, hq => cases hq; exact ⟨fun N y => ⟨(fun k h => by cases h), kM, m2, qM, m3⟩, kM, qM, m2, m3, m1, m4⟩
    | 3, hq => cases hq; exact ⟨fun N y => ⟨(fun k h => by cases h), kS, s2, qS, s3⟩, kS, qS, s2, s3, s1, s4⟩
    | k + 4, hq => simp [zTy] at hq
  have hS : va_S (fun q : Nat => s.heap.size ≤ q) s.heap s.heap [] := va_S.rf
  have hP : va_P D vwCl [] s.heap := fun k q h => by simp at h
  have hD : va_D (fun q : Nat => s.heap.size ≤ q) [] := ⟨fun i j p q h => by simp at h, fun k q h => by simp at h⟩
  have hl := lv_entry ([.ref b]) (n := 4) (Nat.le_of_ble_eq_true rfl)
  rw [lg_entry_eq]
  generalize (lg_sl ([.ref b]) ++ List.replicate (4 - (lg_sl ([.ref b])).length) Slot.unset).toArray = ls at hl ⊢
  have hl : lv_has ls 4 [(0, .ref b)] := hl
  refine va_new (pc := 0) (ci := 8) (fs := [.null, .null, .null, .null, .null, .null, .null, .null]) (C := RX8) (T := TX8) (N := 8) hx hb hts inX8 tyX8 tyX8_ok hown (htL (.classLink RL 7 RX8) (by decide +kernel)) (htL (.instantiable RX8 8) (by decide +kernel)) (htL (.initialized RX8) (by decide +kernel)) hK hP hD hS hA rfl (fun j hj => by rcases (show j = 0 ∨ j = 1 ∨ j = 2 ∨ j = 3 ∨ j = 4 ∨ j = 5 ∨ j = 6 ∨ j = 7 by omega) with rfl | rfl | rfl | rfl | rfl | rfl | rfl | rfl <;> rfl) (Nat.le_of_ble_eq_true rfl) (Nat.le_of_ble_eq_true rfl) dL_law_0 (fun q8 H hP hD hS => ?_)
  refine lv_dup (pc := 3) hx hb dL_law_3 rfl ?_
  refine zI (pc := 4) (rest := [.ref q8]) (cell := (q8, .inr (8, [.null, .null, .null, .null, .null, .null, .null, .null]))) E (tX8_init l D cI cZ cM cS q8 hS0) gL_law_X8_init rfl rfl rfl (htL (.initialized RX8) (by decide +kernel)) (htL (.methodLink RL 9 yX8_init) (by decide +kernel)) (htL (.instanceMethod yX8_init) (by decide +kernel)) rfl (by decide +kernel) ⟨Nat.le_of_ble_eq_true rfl, Nat.le_of_ble_eq_true rfl⟩ hK (fun C hC => by rcases List.mem_cons.mp hC with rfl | hC; exact aoM; rcases List.mem_cons.mp hC with rfl | hC; exact aoS; exact absurd hC List.not_mem_nil) hP hD hS hA hl.1 rfl (Nat.le_of_ble_eq_true rfl) dL_law_4 ⟨Nat.le_of_ble_eq_true rfl, Nat.le_of_ble_eq_true rfl⟩ (fun w8 hpo8 H locs hP hD hS => ?_)
  refine W.eq (g2 := F0 m 7 ls [.ref q8]) rfl ?_
  refine lv_astore_n (lv' := [(1, .ref q8), (0, .ref b)]) (pc := 7) hx hb dL_law_7 rfl hl (by decide) rfl (fun ls hl => ?_)
  refine va_new (pc := 8) (ci := 9) (fs := [.null, .null, .int 0, .null, .null, .int 0, .null, .null, .int 0, .null, .null, .null, .null, .null, .null, .null, .null]) (C := RX9) (T := TX9) (N := 17) hx hb hts inX9 tyX9 tyX9_ok hown (htL (.classLink RL 10 RX9) (by decide +kernel)) (htL (.instantiable RX9 17) (by decide +kernel)) (htL (.initialized RX9) (by decide +kernel)) hK hP hD hS hA rfl (fun j hj => by rcases (show j = 0 ∨ j = 1 ∨ j = 2 ∨ j = 3 ∨ j = 4 ∨ j = 5 ∨ j = 6 ∨ j = 7 ∨ j = 8 ∨ j = 9 ∨ j = 10 ∨ j = 11 ∨ j = 12 ∨ j = 13 ∨ j = 14 ∨ j = 15 ∨ j = 16 by omega) with rfl | rfl | rfl | rfl | rfl | rfl | rfl | rfl | rfl | rfl | rfl | rfl | rfl | rfl | rfl | rfl | rfl <;> rfl) (Nat.le_of_ble_eq_true rfl) (Nat.le_of_ble_eq_true rfl) dL_law_8 (fun q9 H hP hD hS => ?_)
  refine lv_dup (pc := 11) hx hb dL_law_11 rfl ?_
  refine zI (pc := 12) (rest := [.ref q9]) (cell := (q9, .inr (9, [.null, .null, .int 0, .null, .null, .int 0, .null, .null, .int 0, .null, .null, .null, .null, .null, .null, .null, .null]))) E (tX9_init l D cI cZ cM cS q9 hL0) gL_law_X9_init rfl rfl rfl (htL (.initialized RX9) (by decide +kernel)) (htL (.methodLink RL 12 yX9_init) (by decide +kernel)) (htL (.instanceMethod yX9_init) (by decide +kernel)) rfl (by decide +kernel) ⟨Nat.le_of_ble_eq_true rfl, Nat.le_of_ble_eq_true rfl⟩ hK (fun _ h => absurd h List.not_mem_nil) hP hD hS hA hl.1 rfl (Nat.le_of_ble_eq_true rfl) dL_law_12 ⟨Nat.le_of_ble_eq_true rfl, Nat.le_of_ble_eq_true rfl⟩ (fun w9 hpo9 H locs hP hD hS => ?_)
  refine W.eq (g2 := F0 m 15 ls [.ref q9]) rfl ?_
  refine lv_astore_n (lv' := [(2, .ref q9), (1, .ref q8), (0, .ref b)]) (pc := 15) hx hb dL_law_15 rfl hl (by decide) rfl (fun ls hl => ?_)
  refine lv_iconst (v := (0 : Int32)) (pc := 16) hx hb dL_law_16 (by decide) ?_
  refine lv_istore_n (lv' := [(3, .int 0), (2, .ref q9), (1, .ref q8), (0, .ref b)]) (pc := 17) hx hb dL_law_17 rfl hl (by decide) rfl (fun ls hl => ?_)
  obtain ⟨ax0, ax1, ax2, ax3, ax4, ax5, ax6, ax7, ax8, ax9, ax10, ax11, ax12, ax13, ax14, ax15, ax16, ax17, ax18, ax19, ax20, ax21, ax22, ax23, ax24, ax25, ax26, ax27, ax28, ax29, ax30, ax31, ax32, ax33, ax34, ax35, ax36, ra, rfl⟩ := hpo8
  obtain ⟨am0, am1, am2, am3, am4, am5, am6, am7, am8, am9, am10, am11, am12, am13, rfl⟩ := hpo9
  refine W.widen (k := 600000) (n := 7302250) (Nat.le_of_ble_eq_true rfl) (Nat.le_of_ble_eq_true rfl) ?_
  have hP := zP_perm (List.perm_append_comm) hP
  have hD := zD_perm (List.perm_append_comm) hD
  rw [List.append_nil] at hP hD
  refine law_loop (ad := fun k => [q8, ax0, ax1, ax2, ax3, ax4, ax5, ax6, ax7, ax8, ax9, ax10, ax11, ax12, ax13, ax14, ax15, ax16, ax17, ax18, ax19, ax20, ax21, ax22, ax23, ax24, ax25, ax26, ax27, ax28, ax29, ax30, ax31, ax32, ax33, ax34, ax35, ax36, q9, am0, am1, am2, am3, am4, am5, am6, am7, am8, am9, am10, am11, am12, am13].getD k 0) (ra := ra) hx hb hml hown htL hX hbl hL hK h0 h1 h2 h3 h4 h5 h6 h7 h8 h9 h10 h11 h12 h13 h14 h15 h16 h17 h18 h19 h20 h21 h22 h23 h24 h25 ?_ (L + 1) 0 (Nat.zero_le L) (by omega) ((sv1, sv2, sv3, sv4, sv5, sv6, sv7, sv8, sv9), (0, 0), (0, (fun _ => 0), (fun _ => 0)), (0, 0, (sv1, sv2, sv3, sv4, sv5, sv6, sv7, sv8, sv9)), (0, 0, (sv1, sv2, sv3, sv4, sv5, sv6, sv7, sv8, sv9)), (0, (fun _ => 0)), ((fun _ => 0), (fun _ => 0), 0, (fun _ => 0)), (0, (fun _ => 0)), 0, fun _ => (sv1, sv2, sv3, sv4, sv5, sv6, sv7, sv8, sv9)) ((0, 0, 0), (st', (fun _ => 0), (fun _ => 0), (fun _ => 0), (fun _ => 0), (fun _ => 0)), ((fun _ => 0), (fun _ => 0), (fun _ => 0), (fun _ => 0), (fun _ => 0), (fun _ => 0), (fun _ => 0), (fun _ => 0))) _ _ ls hinit hP hD hS (lv_sub hl [3, 2, 1, 0] rfl)
  intro H locs ls hS
  refine lv_iconst (v := (1 : Int32)) (pc := 876) hx hb dL_law_876 (by decide) ?_
  refine va_forget (fun q hq => hS.2.2 q hq) ?_
  exact lw_ret hx hb hr hlocks dL_law_877
