set_option maxHeartbeats 4000000 in
set_option maxRecDepth 100000 in
theorem law_loop {p : Program} {l : Launch} {e : Env} {s : State} {m : MethodId} {below : List Frame} {meth : Method} {c : Code} {D : va_G} {cI cZ cM cS : ClassId} {b L : Nat} {xs : Nat → Int32} {ad : Nat → Nat} {ra : Nat → zSA} {Q : State → Prop} (hx : p.tables.exec = Jvm.exec) (hb : c.code = cL_law) (hml : c.maxLocals = 4) (hown : s.vm.findClass RL = some m.cls) (hts : ∀ w ∈ wsL_law, w.before #[Value.ref b] s = true) (hX : va_X b L xs s s.heap) (hbl : b < s.heap.size) (hL : L ≤ 2048) (hK : va_K D vwCl (zTy cI cZ cM cS) s) {Inv : zXV → zMV → Prop} (h0 : ∀ a : Int32, zStep Inv (x_told a) (m_told a)) (h1 : ∀ a b : Int32, zStep Inv (x_item a b) (m_item a b)) (h2 : ∀ a : Int32, zStep Inv (x_classAt a) (m_classAt a)) (h3 : ∀ a b c : Int32, zStep Inv (x_setBy a b c) (m_setBy a b c)) (h4 : ∀ a b c : Int32, zStep Inv (x_alike a b c) (m_alike a b c)) (h5 : ∀ a b : Int32, zStep Inv (x_apart a b) (m_apart a b)) (h6 : ∀ a b : Int32, zStep Inv (x_search a b) (m_search a b)) (h7 : ∀ a : Int32, zStep Inv (x_items a) (m_items a)) (h8 : ∀ a b c : Int32, zStep Inv (x_edge a b c) (m_edge a b c)) (h9 : ∀ a b : Int32, zStep Inv (x_columns a b) (m_columns a b)) (h10 : ∀ a : Int32, zStep Inv (x_letters a) (m_letters a)) (h11 : ∀ a b c : Int32, zStep Inv (x_goes a b c) (m_goes a b c)) (h12 : ∀ a : Int32, zStep Inv (x_finals a) (m_finals a)) (h13 : zStep Inv (x_begin) (m_begin)) (h14 : ∀ a : Int32, zStep Inv (x_split a) (m_split a)) (h15 : ∀ a b c : Int32, zStep Inv (x_by a b c) (m_by a b c)) (h16 : ∀ a : Int32, zStep Inv (x_refine a) (m_refine a)) (h17 : ∀ a : Int32, zStep Inv (x_join a) (m_join a)) (h18 : zStep Inv (x_arrange) (m_arrange)) (h19 : ∀ a : Int32, zStep Inv (x_drift a) (m_drift a)) (h20 : ∀ a : Int32, zStep Inv (x_undo a) (m_undo a)) (h21 : ∀ a b : Int32, zStep Inv (x_write a b) (m_write a b)) (h22 : zStep Inv (x_tear) (m_tear)) (h23 : ∀ a : Int32, zStep Inv (x_seed a) (m_seed a)) (h24 : ∀ a : Int32, zStep Inv (x_keep a) (m_keep a)) (h25 : ∀ a : Int32, zStep Inv (x_goBack a) (m_goBack a)) (hend : ∀ (H : Heap) (locs : List Loc) (ls : Array Slot), va_S (fun q : Nat => s.heap.size ≤ q) s.heap H locs → W p l e room_1 s m #[Value.ref b] below meth c H locs 600000 7302250 Q (F0 m 876 ls [])) : ∀ (n i : Nat), i ≤ L → L + 1 ≤ i + n → ∀ (X : zXV) (M : zMV) (H : Heap) (locs : List Loc) (ls : Array Slot), Inv X M → va_P D vwCl (wXX cI cZ cM cS ad ra X ++ wMM cI cZ cM cS ad M) H → va_D (fun q : Nat => s.heap.size ≤ q) (wXX cI cZ cM cS ad ra X ++ wMM cI cZ cM cS ad M) → va_S (fun q : Nat => s.heap.size ≤ q) s.heap H locs → lv_has ls 4 [(0, .ref b), (1, .ref (ad 0)), (2, .ref (ad 38)), (3, .int (nI i))] → W p l e room_1 s m #[Value.ref b] below meth c H locs 600000 7302250 Q (F0 m 18 ls []) := by
  have hbA : ¬ (fun q : Nat => s.heap.size ≤ q) b := Nat.not_le.mpr hbl
  intro n
  induction n with
  | zero => intro i h1 h2; exact absurd h2 (by omega)
  | succ n ih =>
    intro i hi hin X M H locs ls hI hP hD hS hl
    refine lv_iload_n (pc := 18) hx hb dL_law_18 rfl (lv_at hl 3 rfl) ?_
    refine lv_aload_n (pc := 19) hx hb dL_law_19 rfl (lv_at hl 0 rfl) ?_
    refine va_slen (pc := 20) hx hb hX hbl hbA hS dL_law_20 ?_
    refine lv_iconst (v := (4 : Int32)) (pc := 21) hx hb dL_law_21 (by decide) ?_
    refine lv_isub (pc := 22) hx hb dL_law_22 ?_
    refine lv_icmp_gt (pc := 23) (tgt := 876) hx hb dL_law_23 (by decide) (fun hc => hend H locs ls hS) (fun hc => ?_)
    have hi4 : i + 4 ≤ L := by
      have e1 : (nI L - nI 4).toInt = (L : Int) - (4 : Nat) := pk_sub_toInt (by omega) (by omega)
      have e2 : (nI i).toInt = (i : Int) := nI_toInt (by omega)
      have hc2 : ¬ (nI L - nI 4) < nI i := hc
      rw [Int32.lt_iff_toInt_lt, e1, e2] at hc2
      omega
    have next : ∀ (X : zXV) (M : zMV) (H : Heap) (locs : List Loc) (ls : Array Slot), Inv X M → va_P D vwCl (wXX cI cZ cM cS ad ra X ++ wMM cI cZ cM cS ad M) H → va_D (fun q : Nat => s.heap.size ≤ q) (wXX cI cZ cM cS ad ra X ++ wMM cI cZ cM cS ad M) → va_S (fun q : Nat => s.heap.size ≤ q) s.heap H locs → lv_has ls 4 [(0, .ref b), (1, .ref (ad 0)), (2, .ref (ad 38)), (3, .int (nI i))] → W p l e room_1 s m #[Value.ref b] below meth c H locs 600000 7302250 Q (F0 m 870 ls []) := by
      intro X M H locs ls hI hP hD hS hl
      refine lv_iinc (v := nI (i + 4)) (lv' := [(3, .int (nI (i + 4))), (0, .ref b), (1, .ref (ad 0)), (2, .ref (ad 38))]) (pc := 870) hx hb dL_law_870 hl (k := 3) rfl (nI_add i 4) (by decide) rfl (fun ls hl => ?_)
      refine lv_goto (pc := 873) (tgt := 18) hx hb dL_law_873 (by decide) ?_
      exact ih (i + 4) hi4 (by omega) X M H locs ls hI hP hD hS (lv_sub hl [1, 2, 3, 0] rfl)
    refine lv_aload_n (pc := 26) hx hb dL_law_26 rfl (lv_at hl 0 rfl) ?_
    refine lv_iload_n (pc := 27) hx hb dL_law_27 rfl (lv_at hl 3 rfl) ?_
    refine z_sld (pc := 28) (j := i) hx hb hX hbl hbA hS rfl (by omega) hL dL_law_28 ?_
    refine lv_bipush (v := (31 : Int32)) (pc := 29) hx hb dL_law_29 (by decide) ?_
    refine lv_iand (pc := 31) hx hb dL_law_31 ?_
    obtain ⟨j, hj, ej⟩ := pk_andE (xs i) (m := 31) 5 (by decide)
    rw [ej]
    by_cases k0 : j = 0
    · subst k0
      refine lv_tableIn (pc := 32) (tgt := 152) hx hb dL_law_32 (by decide) (by decide) rfl (by decide) ?_
      exact law_c0 hx hb hml hown hts hX hbl hL hK hi4 next hI (h0 (xs (i + 1))) hP hD hS hl
    by_cases k1 : j = 1
    · subst k1
      refine lv_tableIn (pc := 32) (tgt := 175) hx hb dL_law_32 (by decide) (by decide) rfl (by decide) ?_
      exact law_c1 hx hb hml hown hts hX hbl hL hK hi4 next hI (h1 (xs (i + 1)) (xs (i + 2))) hP hD hS hl
    by_cases k2 : j = 2
    · subst k2
      refine lv_tableIn (pc := 32) (tgt := 208) hx hb dL_law_32 (by decide) (by decide) rfl (by decide) ?_
      exact law_c2 hx hb hml hown hts hX hbl hL hK hi4 next hI (h2 (xs (i + 1))) hP hD hS hl
    by_cases k3 : j = 3
    · subst k3
      refine lv_tableIn (pc := 32) (tgt := 231) hx hb dL_law_32 (by decide) (by decide) rfl (by decide) ?_
      exact law_c3 hx hb hml hown hts hX hbl hL hK hi4 next hI (h3 (xs (i + 1)) (xs (i + 2)) (xs (i + 3))) hP hD hS hl
    by_cases k4 : j = 4
    · subst k4
      refine lv_tableIn (pc := 32) (tgt := 274) hx hb dL_law_32 (by decide) (by decide) rfl (by decide) ?_
      exact law_c4 hx hb hml hown hts hX hbl hL hK hi4 next hI (h4 (xs (i + 1)) (xs (i + 2)) (xs (i + 3))) hP hD hS hl
    by_cases k5 : j = 5
    · subst k5
      refine lv_tableIn (pc := 32) (tgt := 317) hx hb dL_law_32 (by decide) (by decide) rfl (by decide) ?_
      exact law_c5 hx hb hml hown hts hX hbl hL hK hi4 next hI (h5 (xs (i + 1)) (xs (i + 2))) hP hD hS hl
    by_cases k6 : j = 6
    · subst k6
      refine lv_tableIn (pc := 32) (tgt := 350) hx hb dL_law_32 (by decide) (by decide) rfl (by decide) ?_
      exact law_c6 hx hb hml hown hts hX hbl hL hK hi4 next hI (h6 (xs (i + 1)) (xs (i + 2))) hP hD hS hl
    by_cases k7 : j = 7
    · subst k7
      refine lv_tableIn (pc := 32) (tgt := 383) hx hb dL_law_32 (by decide) (by decide) rfl (by decide) ?_
      exact law_c7 hx hb hml hown hts hX hbl hL hK hi4 next hI (h7 (xs (i + 1))) hP hD hS hl
    by_cases k8 : j = 8
    · subst k8
      refine lv_tableIn (pc := 32) (tgt := 406) hx hb dL_law_32 (by decide) (by decide) rfl (by decide) ?_
      exact law_c8 hx hb hml hown hts hX hbl hL hK hi4 next hI (h8 (xs (i + 1)) (xs (i + 2)) (xs (i + 3))) hP hD hS hl
    by_cases k9 : j = 9
    · subst k9
      refine lv_tableIn (pc := 32) (tgt := 449) hx hb dL_law_32 (by decide) (by decide) rfl (by decide) ?_
      exact law_c9 hx hb hml hown hts hX hbl hL hK hi4 next hI (h9 (xs (i + 1)) (xs (i + 2))) hP hD hS hl
    by_cases k10 : j = 10
    · subst k10
      refine lv_tableIn (pc := 32) (tgt := 482) hx hb dL_law_32 (by decide) (by decide) rfl (by decide) ?_
      exact law_c10 hx hb hml hown hts hX hbl hL hK hi4 next hI (h10 (xs (i + 1))) hP hD hS hl
    by_cases k11 : j = 11
    · subst k11
      refine lv_tableIn (pc := 32) (tgt := 505) hx hb dL_law_32 (by decide) (by decide) rfl (by decide) ?_
      exact law_c11 hx hb hml hown hts hX hbl hL hK hi4 next hI (h11 (xs (i + 1)) (xs (i + 2)) (xs (i + 3))) hP hD hS hl
    by_cases k12 : j = 12
    · subst k12
      refine lv_tableIn (pc := 32) (tgt := 548) hx hb dL_law_32 (by decide) (by decide) rfl (by decide) ?_
      exact law_c12 hx hb hml hown hts hX hbl hL hK hi4 next hI (h12 (xs (i + 1))) hP hD hS hl
    by_cases k13 : j = 13
    · subst k13
      refine lv_tableIn (pc := 32) (tgt := 571) hx hb dL_law_32 (by decide) (by decide) rfl (by decide) ?_
      exact law_c13 hx hb hml hown hts hX hbl hL hK hi4 next hI (h13) hP hD hS hl
    by_cases k14 : j = 14
    · subst k14
      refine lv_tableIn (pc := 32) (tgt := 584) hx hb dL_law_32 (by decide) (by decide) rfl (by decide) ?_
      exact law_c14 hx hb hml hown hts hX hbl hL hK hi4 next hI (h14 (xs (i + 1))) hP hD hS hl
    by_cases k15 : j = 15
    · subst k15
      refine lv_tableIn (pc := 32) (tgt := 607) hx hb dL_law_32 (by decide) (by decide) rfl (by decide) ?_
      exact law_c15 hx hb hml hown hts hX hbl hL hK hi4 next hI (h15 (xs (i + 1)) (xs (i + 2)) (xs (i + 3))) hP hD hS hl
    by_cases k16 : j = 16
    · subst k16
      refine lv_tableIn (pc := 32) (tgt := 650) hx hb dL_law_32 (by decide) (by decide) rfl (by decide) ?_
      exact law_c16 hx hb hml hown hts hX hbl hL hK hi4 next hI (h16 (xs (i + 1))) hP hD hS hl
    by_cases k17 : j = 17
    · subst k17
      refine lv_tableIn (pc := 32) (tgt := 673) hx hb dL_law_32 (by decide) (by decide) rfl (by decide) ?_
      exact law_c17 hx hb hml hown hts hX hbl hL hK hi4 next hI (h17 (xs (i + 1))) hP hD hS hl
    by_cases k18 : j = 18
    · subst k18
      refine lv_tableIn (pc := 32) (tgt := 696) hx hb dL_law_32 (by decide) (by decide) rfl (by decide) ?_
      exact law_c18 hx hb hml hown hts hX hbl hL hK hi4 next hI (h18) hP hD hS hl
    by_cases k19 : j = 19
    · subst k19
      refine lv_tableIn (pc := 32) (tgt := 709) hx hb dL_law_32 (by decide) (by decide) rfl (by decide) ?_
      exact law_c19 hx hb hml hown hts hX hbl hL hK hi4 next hI (h19 (xs (i + 1))) hP hD hS hl
    by_cases k20 : j = 20
    · subst k20
      refine lv_tableIn (pc := 32) (tgt := 732) hx hb dL_law_32 (by decide) (by decide) rfl (by decide) ?_
      exact law_c20 hx hb hml hown hts hX hbl hL hK hi4 next hI (h20 (xs (i + 1))) hP hD hS hl
    by_cases k21 : j = 21
    · subst k21
      refine lv_tableIn (pc := 32) (tgt := 755) hx hb dL_law_32 (by decide) (by decide) rfl (by decide) ?_
      exact law_c21 hx hb hml hown hts hX hbl hL hK hi4 next hI (h21 (xs (i + 1)) (xs (i + 2))) hP hD hS hl
    by_cases k22 : j = 22
    · subst k22
      refine lv_tableIn (pc := 32) (tgt := 788) hx hb dL_law_32 (by decide) (by decide) rfl (by decide) ?_
      exact law_c22 hx hb hml hown hts hX hbl hL hK hi4 next hI (h22) hP hD hS hl
    by_cases k23 : j = 23
    · subst k23
      refine lv_tableIn (pc := 32) (tgt := 801) hx hb dL_law_32 (by decide) (by decide) rfl (by decide) ?_
      exact law_c23 hx hb hml hown hts hX hbl hL hK hi4 next hI (h23 (xs (i + 1))) hP hD hS hl
    by_cases k24 : j = 24
    · subst k24
      refine lv_tableIn (pc := 32) (tgt := 824) hx hb dL_law_32 (by decide) (by decide) rfl (by decide) ?_
      exact law_c24 hx hb hml hown hts hX hbl hL hK hi4 next hI (h24 (xs (i + 1))) hP hD hS hl
    by_cases k25 : j = 25
    · subst k25
      refine lv_tableIn (pc := 32) (tgt := 847) hx hb dL_law_32 (by decide) (by decide) rfl (by decide) ?_
      exact law_c25 hx hb hml hown hts hX hbl hL hK hi4 next hI (h25 (xs (i + 1))) hP hD hS hl
    refine lv_tableOut (pc := 32) (tgt := 870) hx hb dL_law_32 (Or.inr (by rw [nI_toInt (show j < 2 ^ 31 by omega)]; omega)) (by decide) ?_
    exact next X M H locs ls hI hP hD hS hl
