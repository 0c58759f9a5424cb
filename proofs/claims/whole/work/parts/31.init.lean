theorem zperm5 {α : Type} (a b c : List α) : ((a ++ b) ++ c).Perm (b ++ (c ++ a)) := by
  rw [List.append_assoc]
  refine (List.perm_append_comm (l₁ := a) (l₂ := b ++ c)).trans ?_
  rw [List.append_assoc]
theorem zcell_congr {cA : ClassId} {n : Nat} {f g : Nat → Option Nat} (h : ∀ i, i < n → f i = g i) : vp_cell cA (n, .inr (.inr (.inr (.inr f)))) = vp_cell cA (n, .inr (.inr (.inr (.inr g)))) := by
  rw [vp_cell_q, vp_cell_q]
  unfold arrV
  congr 1
  apply Array.ext
  · simp
  · intro i h1 h2
    simp at h1
    simp [h i h1]
theorem zP_refs {D : va_G} {cl : List vw_C} {a : Nat} {cA : ClassId} {n : Nat} {f g : Nat → Option Nat} {x : Nat × va_E} {w : va_W} {H : Heap} (h : ∀ i, i < n → f i = g i) (hP : va_P D cl (x :: (a, .inl (cA, n, .inr (.inr (.inr (.inr f))))) :: w) H) : va_P D cl (x :: (a, .inl (cA, n, .inr (.inr (.inr (.inr g))))) :: w) H := by
  rw [zP_iff] at hP ⊢
  intro q hq
  rcases List.mem_cons.mp hq with rfl | hq
  · exact hP _ List.mem_cons_self
  rcases List.mem_cons.mp hq with rfl | hq
  · have h1 := hP _ (List.mem_cons_of_mem _ List.mem_cons_self)
    show H[a]? = some (vp_cell _ _)
    rw [← zcell_congr h]
    exact h1
  · exact hP _ (List.mem_cons_of_mem _ (List.mem_cons_of_mem _ hq))
theorem zD_refs {A : Nat → Prop} {a : Nat} {e1 e2 : va_E} {x : Nat × va_E} {w : va_W} (hD : va_D A (x :: (a, e1) :: w)) : va_D A (x :: (a, e2) :: w) := by
  rw [zD_iff] at hD ⊢
  refine ⟨hD.1, fun q hq => ?_⟩
  rcases List.mem_cons.mp hq with rfl | hq
  · exact hD.2 _ List.mem_cons_self
  rcases List.mem_cons.mp hq with rfl | hq
  · exact hD.2 (a, e1) (List.mem_cons_of_mem _ List.mem_cons_self)
  · exact hD.2 _ (List.mem_cons_of_mem _ (List.mem_cons_of_mem _ hq))
theorem zRingN_succ {cI : ClassId} {ra : Nat → zSA} {rg : Nat → zSV} {k : Nat} {a : zSA} {v : zSV} (hv : rg k = v) : zRingN cI (va_up ra k a) rg (k + 1) = zRingN cI ra rg k ++ zSt cI a v := by
  unfold zRingN
  rw [List.range_succ, List.flatMap_append]
  congr 1
  · rw [List.flatMap_def, List.flatMap_def]
    congr 1
    apply List.map_congr_left
    intro i hi
    have h1 : i ≠ k := Nat.ne_of_lt (List.mem_range.mp hi)
    simp only [va_up, if_neg h1]
  · simp [va_up, hv]
set_option maxHeartbeats 8000000 in
set_option maxRecDepth 100000 in
theorem tX2_init (l : Launch) (D : va_G) (cI cZ cM cS : ClassId) (xo : Nat) {sv1 sv2 sv3 sv4 : Int32} {sv5 sv6 sv7 : Nat → Int32} {sv8 : Int32} {sv9 : Nat → Int32} (hS0 : fX6_startWith (4 : Int32) 0 0 0 0 (fun _ => 0) (fun _ => 0) (fun _ => 0) 0 (fun _ => 0) = some (sv1, sv2, sv3, sv4, sv5, sv6, sv7, sv8, sv9)) : zCN l yX2_init wsX2_init (zRmN 5 97 1328 109) D (zTy cI cZ cM cS) ["SplitClasses$State"] [.ref xo] [(xo, .inr (2, [.null, .int 0, .int 0]))] (fun w2 => ∃ rr ra, w2 = [(xo, .inr (2, [.ref rr, .int 0, .int 0])), (rr, .inl (cS, 16, .inr (.inr (.inr (.inr (fun i => some (ra i).1))))))] ++ zRing cI ra (fun _ => (sv1, sv2, sv3, sv4, sv5, sv6, sv7, sv8, sv9))) 97 1328 := by
  refine zCN_of (cc := cX2_init) (maxL := 2) (own := RX2) (by decide +kernel) rfl rfl rfl (Nat.le_of_ble_eq_true rfl) (fun p e s m args below meth c Q ls A E hin hA hK hao hP hD hRet hS hl => ?_)
  have hl : lv_has ls 2 [(0, .ref xo)] := hl
  obtain ⟨hx, hb, hml, hown, hts⟩ := id E
  have inX2 : ∀ w ∈ u_ws RX2 TX2 3, w ∈ wsX2_init := by decide +kernel
  have inX6 : ∀ w ∈ u_ws RX6 TX6 8, w ∈ wsX2_init := by decide +kernel
  have fl11 := hts (.fieldLink RX2 11 "SplitClasses$History" "ring" "[LSplitClasses$State;") (by decide +kernel)
  have fl18 := hts (.fieldLink RX2 18 "SplitClasses$History" "next" "I") (by decide +kernel)
  have fl22 := hts (.fieldLink RX2 22 "SplitClasses$History" "count" "I") (by decide +kernel)
  have e16 : (16 : Int32) = nI 16 := by decide
  refine lv_aload_n (pc := 0) hx hb dX2_init_0 rfl (lv_at hl 0 rfl) ?_
  refine W.objInit hx hb hown (hts (.methodLink RX2 3 objectInit) (by decide +kernel)) (hts (.instanceMethod objectInit) (by decide +kernel)) (hts (.code objectInit ⟨#[0xb1]⟩ 1 none) (by decide +kernel)) rfl (hl.1.trans hml.symm) rfl dX2_init_1 (Nat.le_of_ble_eq_true rfl) (Nat.le_of_ble_eq_true rfl) ?_
  refine W.eq (g2 := F0 m 4 ls []) rfl ?_
  refine lv_aload_n (pc := 4) hx hb dX2_init_4 rfl (lv_at hl 0 rfl) ?_
  refine lv_bipush (v := (16 : Int32)) (pc := 5) hx hb dX2_init_5 (by decide) ?_
  refine z_newq (pc := 7) (N' := 16) (own := RX2) (C := RX6) hx hb hown (hts (.classLink RX2 9 RX6) (by decide +kernel)) (hao _ (by decide +kernel)) hK hP hD hS hA 3 rfl (by decide) (by decide) (by decide) (Nat.le_of_ble_eq_true rfl) (Nat.le_of_ble_eq_true rfl) dX2_init_7 (fun rr H hP hD hS => ?_)
  have hP : va_P D vwCl [(xo, .inr (2, [.null, .int 0, .int 0])), (rr, .inl (cS, 16, .inr (.inr (.inr (.inr (fun _ => none))))))] H := hP
  have hD : va_D A [(xo, .inr (2, [.null, .int 0, .int 0])), (rr, .inl (cS, 16, .inr (.inr (.inr (.inr (fun _ => none))))))] := hD
  refine va_putF (pc := 10) (D := D) (ci := 2) (v := .ref rr) (ty := .array (.object "SplitClasses$State")) (C := RX2) (T := TX2) (N := 3) hx hb hts inX2 tyX2 tyX2_ok nmX2 hown hK hP hD hS 0 rfl rfl 0 (by decide) fl11 (fun _ h9 => h9) rfl hin rfl (by decide +kernel) rfl rfl (Nat.le_of_ble_eq_true rfl) dX2_init_10 (fun H locs hP hD hS => ?_)
  have hP : va_P D vwCl ([(xo, .inr (2, [.ref rr, .int 0, .int 0])), (rr, .inl (cS, 16, .inr (.inr (.inr (.inr (fun _ => none))))))] ++ zRingN cI (fun _ => (0, 0, 0, 0, 0, 0)) (fun _ => (sv1, sv2, sv3, sv4, sv5, sv6, sv7, sv8, sv9)) 0) H := hP
  have hD : va_D A ([(xo, .inr (2, [.ref rr, .int 0, .int 0])), (rr, .inl (cS, 16, .inr (.inr (.inr (.inr (fun _ => none))))))] ++ zRingN cI (fun _ => (0, 0, 0, 0, 0, 0)) (fun _ => (sv1, sv2, sv3, sv4, sv5, sv6, sv7, sv8, sv9)) 0) := hD
  refine lv_iconst (v := (0 : Int32)) (pc := 13) hx hb dX2_init_13 (by decide) ?_
  refine lv_istore_n (lv' := [(1, .int (0 : Int32)), (0, .ref xo)]) (pc := 14) hx hb dX2_init_14 rfl hl (by decide) rfl (fun ls hl => ?_)
  have lp : ∀ (n k : Nat) (f : Nat → Option Nat) (ra : Nat → zSA) (H : Heap) (locs : List Loc) (ls : Array Slot), k + n = 16 → (∀ i, i < k → f i = some (ra i).1) → va_P D vwCl ([(xo, .inr (2, [.ref rr, .int 0, .int 0])), (rr, .inl (cS, 16, .inr (.inr (.inr (.inr f)))))] ++ zRingN cI ra (fun _ => (sv1, sv2, sv3, sv4, sv5, sv6, sv7, sv8, sv9)) k) H → va_D A ([(xo, .inr (2, [.ref rr, .int 0, .int 0])), (rr, .inl (cS, 16, .inr (.inr (.inr (.inr f)))))] ++ zRingN cI ra (fun _ => (sv1, sv2, sv3, sv4, sv5, sv6, sv7, sv8, sv9)) k) → va_S A s.heap H locs → lv_has ls 2 [(1, .int (nI k)), (0, .ref xo)] → W p l e (zRmN 5 97 1328 109) s m args below meth c H locs (1 + 6 * k) (16 + 82 * k) Q (F0 m 15 ls []) := by
    intro n
    induction n with
    | zero =>
      intro k f ra H locs ls hk hf hP hD hS hl
      have hk : k = 16 := by omega
      subst hk
      refine lv_iload_n (pc := 15) hx hb dX2_init_15 rfl (lv_at hl 0 rfl) ?_
      refine lv_bipush (v := (16 : Int32)) (pc := 16) hx hb dX2_init_16 (by decide) ?_
      refine lv_icmp_ge (pc := 18) (tgt := 40) hx hb dX2_init_18 (by decide) (fun hc => ?_) (fun hc => absurd (by decide) hc)
      have hP := zP_refs hf hP
      have hD : va_D A ([(xo, .inr (2, [.ref rr, .int 0, .int 0])), (rr, .inl (cS, 16, .inr (.inr (.inr (.inr (fun i => some (ra i).1))))))] ++ zRingN cI ra (fun _ => (sv1, sv2, sv3, sv4, sv5, sv6, sv7, sv8, sv9)) 16) := zD_refs hD
      refine lv_aload_n (pc := 40) hx hb dX2_init_40 rfl (lv_at hl 1 rfl) ?_
      refine lv_iconst (v := (0 : Int32)) (pc := 41) hx hb dX2_init_41 (by decide) ?_
      refine va_put (pc := 42) (D := D) (ci := 2) (v := .int (0 : Int32)) (ty := .int) (C := RX2) (T := TX2) (N := 3) hx hb hts inX2 tyX2 tyX2_ok nmX2 hown hK hP hD hS 0 rfl rfl 1 (by decide) fl18 (fun _ h9 => h9) rfl (by decide +kernel) rfl rfl (Nat.le_of_ble_eq_true rfl) dX2_init_42 (fun H locs hP hD hS => ?_)
      have hP : va_P D vwCl ([(xo, .inr (2, [.ref rr, .int 0, .int 0])), (rr, .inl (cS, 16, .inr (.inr (.inr (.inr (fun i => some (ra i).1))))))] ++ zRingN cI ra (fun _ => (sv1, sv2, sv3, sv4, sv5, sv6, sv7, sv8, sv9)) 16) H := hP
      have hD : va_D A ([(xo, .inr (2, [.ref rr, .int 0, .int 0])), (rr, .inl (cS, 16, .inr (.inr (.inr (.inr (fun i => some (ra i).1))))))] ++ zRingN cI ra (fun _ => (sv1, sv2, sv3, sv4, sv5, sv6, sv7, sv8, sv9)) 16) := hD
      refine lv_aload_n (pc := 45) hx hb dX2_init_45 rfl (lv_at hl 1 rfl) ?_
      refine lv_iconst (v := (0 : Int32)) (pc := 46) hx hb dX2_init_46 (by decide) ?_
      refine va_put (pc := 47) (D := D) (ci := 2) (v := .int (0 : Int32)) (ty := .int) (C := RX2) (T := TX2) (N := 3) hx hb hts inX2 tyX2 tyX2_ok nmX2 hown hK hP hD hS 0 rfl rfl 2 (by decide) fl22 (fun _ h9 => h9) rfl (by decide +kernel) rfl rfl (Nat.le_of_ble_eq_true rfl) dX2_init_47 (fun H locs hP hD hS => ?_)
      exact hRet ([(xo, .inr (2, [.ref rr, .int 0, .int 0])), (rr, .inl (cS, 16, .inr (.inr (.inr (.inr (fun i => some (ra i).1))))))] ++ zRing cI ra (fun _ => (sv1, sv2, sv3, sv4, sv5, sv6, sv7, sv8, sv9))) _ _ _ _ ⟨rr, ra, rfl⟩ dX2_init_50 hP hD hS
    | succ n ih =>
      intro k f ra H locs ls hk hf hP hD hS hl
      have hlt : k < 16 := by omega
      refine lv_iload_n (pc := 15) hx hb dX2_init_15 rfl (lv_at hl 0 rfl) ?_
      refine lv_bipush (v := (16 : Int32)) (pc := 16) hx hb dX2_init_16 (by decide) ?_
      refine lv_icmp_ge (pc := 18) (tgt := 40) hx hb dX2_init_18 (by decide) (fun hc => absurd (e16 ▸ hc) (nI_ge hlt (by decide))) (fun hc => ?_)
      refine lv_aload_n (pc := 21) hx hb dX2_init_21 rfl (lv_at hl 1 rfl) ?_
      refine va_get (pc := 22) (ci := 2) (C := RX2) (T := TX2) (N := 3) hx hb hts inX2 hown hK hP 0 rfl rfl 0 (by decide) fl11 (fun _ h9 => h9) rfl dX2_init_22 ?_
      refine lv_iload_n (pc := 25) hx hb dX2_init_25 rfl (lv_at hl 0 rfl) ?_
      refine va_new (pc := 26) (ci := 6) (fs := [.int 0, .int 0, .int 0, .int 0, .null, .null, .null, .null]) (C := RX6) (T := TX6) (N := 8) hx hb hts inX6 tyX6 tyX6_ok hown (hts (.classLink RX2 9 RX6) (by decide +kernel)) (hts (.instantiable RX6 8) (by decide +kernel)) (hts (.initialized RX6) (by decide +kernel)) hK hP hD hS hA rfl (fun j hj => by rcases (show j = 0 ∨ j = 1 ∨ j = 2 ∨ j = 3 ∨ j = 4 ∨ j = 5 ∨ j = 6 ∨ j = 7 by omega) with rfl | rfl | rfl | rfl | rfl | rfl | rfl | rfl <;> rfl) (show 1 + 6 * k + 1 ≤ 97 by omega) (show 16 + 82 * k + 8 ≤ 1328 by omega) dX2_init_26 (fun q1 H hP hD hS => ?_)
      refine lv_dup (pc := 29) hx hb dX2_init_29 rfl ?_
      refine zI (pc := 30) (rest := [.ref q1, .int (nI k), .ref rr]) (cell := (q1, .inr (6, [.int 0, .int 0, .int 0, .int 0, .null, .null, .null, .null]))) E (tX6_init l D cI cZ cM cS q1 hS0) (gX2_init_X6_init) rfl rfl rfl (hts (.initialized RX6) (by decide +kernel)) (hts (.methodLink RX2 17 yX6_init) (by decide +kernel)) (hts (.instanceMethod yX6_init) (by decide +kernel)) rfl (by decide +kernel) ⟨Nat.le_of_ble_eq_true rfl, Nat.le_of_ble_eq_true rfl⟩ hK (fun _ h => absurd h List.not_mem_nil) hP hD hS hA hl.1 rfl (Nat.le_of_ble_eq_true rfl) dX2_init_30 ⟨show 1 + 6 * k + 1 + 5 ≤ 97 by omega, show 16 + 82 * k + 8 + 74 ≤ 1328 by omega⟩ (fun w1 hpo H locs hP hD hS => ?_)
      obtain ⟨b1, b2, b3, b4, b5, rfl⟩ := hpo
      refine va_astq (pc := 33) hx hb hK hP hD hS 7 3 0 6 rfl rfl rfl rfl (vp_in_nI hlt (by decide)) dX2_init_33 (fun H locs hP hD hS => ?_)
      rw [nI_clamp (show k < 2 ^ 31 by omega)] at hP hD
      have hP : va_P D vwCl ((zSt cI (q1, b1, b2, b3, b4, b5) (sv1, sv2, sv3, sv4, sv5, sv6, sv7, sv8, sv9) ++ [(xo, .inr (2, [.ref rr, .int 0, .int 0])), (rr, .inl (cS, 16, .inr (.inr (.inr (.inr (va_up f k (some q1))))))) ]) ++ zRingN cI ra (fun _ => (sv1, sv2, sv3, sv4, sv5, sv6, sv7, sv8, sv9)) k) H := hP
      have hD : va_D A ((zSt cI (q1, b1, b2, b3, b4, b5) (sv1, sv2, sv3, sv4, sv5, sv6, sv7, sv8, sv9) ++ [(xo, .inr (2, [.ref rr, .int 0, .int 0])), (rr, .inl (cS, 16, .inr (.inr (.inr (.inr (va_up f k (some q1))))))) ]) ++ zRingN cI ra (fun _ => (sv1, sv2, sv3, sv4, sv5, sv6, sv7, sv8, sv9)) k) := hD
      have hP := zP_perm (zperm5 _ _ _) hP
      have hD := zD_perm (zperm5 _ _ _) hD
      rw [← zRingN_succ (rg := fun _ => (sv1, sv2, sv3, sv4, sv5, sv6, sv7, sv8, sv9)) (k := k) (a := (q1, b1, b2, b3, b4, b5)) rfl] at hP hD
      refine lv_iinc (v := nI (k + 1)) (lv' := [(1, .int (nI (k + 1))), (0, .ref xo)]) (pc := 34) hx hb dX2_init_34 hl (k := 0) rfl (nI_1 k) (by decide) rfl (fun ls hl => ?_)
      refine lv_goto (pc := 37) (tgt := 15) hx hb dX2_init_37 (by decide) ?_
      have hI := ih (k + 1) (va_up f k (some q1)) (va_up ra k (q1, b1, b2, b3, b4, b5)) H locs ls (by omega) (fun i hi => by
        by_cases h : i = k
        · subst h; simp [va_up]
        · simp only [va_up, if_neg h]; exact hf i (by omega)) hP hD hS hl
      have e1 : 1 + 6 * (k + 1) = 1 + 6 * k + 1 + 5 := by omega
      have e2 : 16 + 82 * (k + 1) = 16 + 82 * k + 8 + 74 := by omega
      rw [e1, e2] at hI
      exact hI
  exact lp 16 0 (fun _ => none) (fun _ => (0, 0, 0, 0, 0, 0)) _ _ ls rfl (fun i hi => absurd hi (Nat.not_lt_zero i)) hP hD hS hl
