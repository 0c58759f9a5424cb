def fX6_startWith (p1 : Int32) (sn : Int32) (sl : Int32) (sfin : Int32) (swk : Int32) (scols : (Nat → Int32)) (snear : (Nat → Int32)) (slds : (Nat → Int32)) (qc : Int32) (qf : (Nat → Int32)) : Option (Int32 × Int32 × Int32 × Int32 × (Nat → Int32) × (Nat → Int32) × (Nat → Int32) × Int32 × (Nat → Int32)) := (ob1 (fJ7_fill_53178 (0 : Int32) scols) (fun scols_1 => (ob1 (fJ7_fill_53178 (0 : Int32) snear) (fun snear_1 => (ob2 (fX6_takeLetters (1 : Int32) p1 (0 : Int32) sfin swk slds) (fun sl_1 slds_1 => (ob1 (fX6_all p1 sl_1 (0 : Int32) swk) (fun r_1 => (ob2 (fX5_gather r_1 qc qf) (fun qc_1 qf_1 => (some (p1, sl_1, (0 : Int32), (0 : Int32), scols_1, snear_1, slds_1, qc_1, qf_1))))))))))))
abbrev wX6_startWith (cI cZ cM cS : ClassId) (so sca sna sla sra qs : Nat) (sn : Int32) (sl : Int32) (sfin : Int32) (swk : Int32) (scols : (Nat → Int32)) (snear : (Nat → Int32)) (slds : (Nat → Int32)) (qc : Int32) (qf : (Nat → Int32)) : va_W := [(so, .inr (6, [.int sn, .int sl, .int sfin, .int swk, .ref sca, .ref sna, .ref sla, .ref sra])), (sca, .inl (cI, 12, .inl scols)), (sna, .inl (cI, 12, .inl snear)), (sla, .inl (cI, 36, .inl slds)), (sra, .inr (5, [.ref qs, .int qc])), (qs, .inl (cI, 12, .inl qf))]
set_option maxHeartbeats 4000000 in
set_option maxRecDepth 100000 in
theorem tX6_startWith (l : Launch) (D : va_G) (cI cZ cM cS : ClassId) (so sca sna sla sra qs : Nat) (sn : Int32) (sl : Int32) (sfin : Int32) (swk : Int32) (scols : (Nat → Int32)) (snear : (Nat → Int32)) (slds : (Nat → Int32)) (qc : Int32) (qf : (Nat → Int32)) (p1 : Int32) {sn' : Int32} {sl' : Int32} {sfin' : Int32} {swk' : Int32} {scols' : (Nat → Int32)} {snear' : (Nat → Int32)} {slds' : (Nat → Int32)} {qc' : Int32} {qf' : (Nat → Int32)} (hF : fX6_startWith p1 sn sl sfin swk scols snear slds qc qf = some (sn', sl', sfin', swk', scols', snear', slds', qc', qf')) : zCW l yX6_startWith wsX6_startWith (zRm 3 68) D (zTy cI cZ cM cS) [.ref so, .int p1] (wX6_startWith cI cZ cM cS so sca sna sla sra qs sn sl sfin swk scols snear slds qc qf) (wX6_startWith cI cZ cM cS so sca sna sla sra qs sn' sl' sfin' swk' scols' snear' slds' qc' qf') none := by
  unfold fX6_startWith at hF
  refine zCW_ofv (cc := cX6_startWith) (maxL := 2) (own := RX6) (by decide) rfl rfl (Nat.le_of_ble_eq_true rfl) (fun p e s m args below meth c Q ls A E hA hK hP hD hRet hS hl => ?_)
  refine zgen (fun H locs hP hS => ?_) hP hS
  have hl : lv_has ls 2 [(0, .ref so), (1, .int p1)] := hl
  obtain ⟨hx, hb, hml, hown, hts⟩ := id E
  have inX6 : ∀ w ∈ u_ws RX6 TX6 8, w ∈ wsX6_startWith := by decide +kernel
  have fl15 := hts (.fieldLink RX6 15 "SplitClasses$State" "nearSets" "[I") (by decide +kernel)
  have fl24 := hts (.fieldLink RX6 24 "SplitClasses$State" "row" "LSplitClasses$Row;") (by decide +kernel)
  have fl32 := hts (.fieldLink RX6 32 "SplitClasses$State" "n" "I") (by decide +kernel)
  have fl42 := hts (.fieldLink RX6 42 "SplitClasses$State" "letterCount" "I") (by decide +kernel)
  have fl48 := hts (.fieldLink RX6 48 "SplitClasses$State" "finalSet" "I") (by decide +kernel)
  have fl58 := hts (.fieldLink RX6 58 "SplitClasses$State" "work" "I") (by decide +kernel)
  have fl9 := hts (.fieldLink RX6 9 "SplitClasses$State" "columnSets" "[I") (by decide +kernel)
  refine lv_aload_n (pc := 0) hx hb dX6_startWith_0 rfl (lv_at hl 0 rfl) ?_
  refine lv_iload_n (pc := 1) hx hb dX6_startWith_1 rfl (lv_at hl 1 rfl) ?_
  refine va_put (pc := 2) (D := D) (ci := 6) (v := .int p1) (ty := .int) (C := RX6) (T := TX6) (N := 8) hx hb hts inX6 tyX6 tyX6_ok nmX6 hown hK hP hD hS 0 rfl rfl 0 (by decide) fl32 (fun _ h9 => h9) rfl (by decide +kernel) rfl rfl (Nat.le_of_ble_eq_true rfl) dX6_startWith_2 (fun H locs hP hD hS => ?_)
  have hP : va_P D vwCl (wX6_startWith cI cZ cM cS so sca sna sla sra qs p1 sl sfin swk scols snear slds qc qf) H := hP
  have hD : va_D A (wX6_startWith cI cZ cM cS so sca sna sla sra qs p1 sl sfin swk scols snear slds qc qf) := hD
  refine lv_aload_n (pc := 5) hx hb dX6_startWith_5 rfl (lv_at hl 0 rfl) ?_
  refine va_get (pc := 6) (ci := 6) (C := RX6) (T := TX6) (N := 8) hx hb hts inX6 hown hK hP 0 rfl rfl 4 (by decide) fl9 (fun _ h9 => h9) rfl dX6_startWith_6 ?_
  refine lv_iconst (v := (0 : Int32)) (pc := 9) hx hb dX6_startWith_9 (by decide) ?_
  obtain ⟨scols_1, hC1, hF⟩ := ob1_e hF
  refine zS (pc := 10) (As := [.ref sca, .int (0 : Int32)]) (rest := []) (wr := [(so, .inr (6, [.int p1, .int sl, .int sfin, .int swk, .ref sca, .ref sna, .ref sla, .ref sra])), (sna, .inl (cI, 12, .inl snear)), (sla, .inl (cI, 36, .inl slds)), (sra, .inr (5, [.ref qs, .int qc])), (qs, .inl (cI, 12, .inl qf))]) (w2 := (wX6_startWith cI cZ cM cS so sca sna sla sra qs p1 sl sfin swk scols_1 snear slds qc qf)) E (tJ7_fill_53178 l D cI cZ cM cS sca scols (0 : Int32) hC1) 2 gX6_startWith_J7_fill_53178 rfl rfl rfl (by decide +kernel) ⟨Nat.le_of_ble_eq_true rfl, Nat.le_of_ble_eq_true rfl⟩ hK hP hD hS hA [1] [0, 2, 3, 4, 5] [0, 5, 1, 2, 3, 4] (by decide) rfl rfl (by decide) (by decide) rfl (by decide) rfl hl.1 rfl (Nat.le_of_ble_eq_true rfl) dX6_startWith_10 ⟨Nat.zero_le _, Nat.zero_le _⟩ (fun H locs hP hD hS => ?_)
  refine W.eq (g2 := F0 m 13 ls []) rfl ?_
  refine lv_aload_n (pc := 13) hx hb dX6_startWith_13 rfl (lv_at hl 0 rfl) ?_
  refine va_get (pc := 14) (ci := 6) (C := RX6) (T := TX6) (N := 8) hx hb hts inX6 hown hK hP 0 rfl rfl 5 (by decide) fl15 (fun _ h9 => h9) rfl dX6_startWith_14 ?_
  refine lv_iconst (v := (0 : Int32)) (pc := 17) hx hb dX6_startWith_17 (by decide) ?_
  obtain ⟨snear_1, hC2, hF⟩ := ob1_e hF
  refine zS (pc := 18) (As := [.ref sna, .int (0 : Int32)]) (rest := []) (wr := [(so, .inr (6, [.int p1, .int sl, .int sfin, .int swk, .ref sca, .ref sna, .ref sla, .ref sra])), (sca, .inl (cI, 12, .inl scols_1)), (sla, .inl (cI, 36, .inl slds)), (sra, .inr (5, [.ref qs, .int qc])), (qs, .inl (cI, 12, .inl qf))]) (w2 := (wX6_startWith cI cZ cM cS so sca sna sla sra qs p1 sl sfin swk scols_1 snear_1 slds qc qf)) E (tJ7_fill_53178 l D cI cZ cM cS sna snear (0 : Int32) hC2) 2 gX6_startWith_J7_fill_53178 rfl rfl rfl (by decide +kernel) ⟨Nat.le_of_ble_eq_true rfl, Nat.le_of_ble_eq_true rfl⟩ hK hP hD hS hA [2] [0, 1, 3, 4, 5] [0, 1, 5, 2, 3, 4] (by decide) rfl rfl (by decide) (by decide) rfl (by decide) rfl hl.1 rfl (Nat.le_of_ble_eq_true rfl) dX6_startWith_18 ⟨Nat.zero_le _, Nat.zero_le _⟩ (fun H locs hP hD hS => ?_)
  refine W.eq (g2 := F0 m 21 ls []) rfl ?_
  refine lv_aload_n (pc := 21) hx hb dX6_startWith_21 rfl (lv_at hl 0 rfl) ?_
  refine lv_iconst (v := (0 : Int32)) (pc := 22) hx hb dX6_startWith_22 (by decide) ?_
  refine va_put (pc := 23) (D := D) (ci := 6) (v := .int (0 : Int32)) (ty := .int) (C := RX6) (T := TX6) (N := 8) hx hb hts inX6 tyX6 tyX6_ok nmX6 hown hK hP hD hS 0 rfl rfl 1 (by decide) fl42 (fun _ h9 => h9) rfl (by decide +kernel) rfl rfl (Nat.le_of_ble_eq_true rfl) dX6_startWith_23 (fun H locs hP hD hS => ?_)
  have hP : va_P D vwCl (wX6_startWith cI cZ cM cS so sca sna sla sra qs p1 (0 : Int32) sfin swk scols_1 snear_1 slds qc qf) H := hP
  have hD : va_D A (wX6_startWith cI cZ cM cS so sca sna sla sra qs p1 (0 : Int32) sfin swk scols_1 snear_1 slds qc qf) := hD
  refine lv_aload_n (pc := 26) hx hb dX6_startWith_26 rfl (lv_at hl 0 rfl) ?_
  refine lv_iconst (v := (1 : Int32)) (pc := 27) hx hb dX6_startWith_27 (by decide) ?_
  obtain ⟨sl_1, slds_1, hC3, hF⟩ := ob2_e hF
  refine zV (pc := 28) (As := [.int (1 : Int32)]) (rest := []) (wr := [(sca, .inl (cI, 12, .inl scols_1)), (sna, .inl (cI, 12, .inl snear_1)), (sra, .inr (5, [.ref qs, .int qc])), (qs, .inl (cI, 12, .inl qf))]) (w2 := (wX6_startWith cI cZ cM cS so sca sna sla sra qs p1 sl_1 sfin swk scols_1 snear_1 slds_1 qc qf)) E (tX6_takeLetters l D cI cZ cM cS so sca sna sla sra p1 (0 : Int32) sfin swk slds (1 : Int32) hC3) 1 gX6_startWith_X6_takeLetters rfl rfl rfl (by decide +kernel) ⟨Nat.le_of_ble_eq_true rfl, Nat.le_of_ble_eq_true rfl⟩ hK hP hD hS hA [0, 3] [1, 2, 4, 5] [4, 0, 1, 5, 2, 3] (by decide) rfl rfl (by decide) (by decide) rfl (by decide) 0 6 rfl rfl rfl rfl hl.1 rfl (Nat.le_of_ble_eq_true rfl) dX6_startWith_28 ⟨Nat.zero_le _, Nat.zero_le _⟩ (fun H locs hP hD hS => ?_)
  refine W.eq (g2 := F0 m 31 ls []) rfl ?_
  refine lv_aload_n (pc := 31) hx hb dX6_startWith_31 rfl (lv_at hl 0 rfl) ?_
  refine lv_iconst (v := (0 : Int32)) (pc := 32) hx hb dX6_startWith_32 (by decide) ?_
  refine va_put (pc := 33) (D := D) (ci := 6) (v := .int (0 : Int32)) (ty := .int) (C := RX6) (T := TX6) (N := 8) hx hb hts inX6 tyX6 tyX6_ok nmX6 hown hK hP hD hS 0 rfl rfl 2 (by decide) fl48 (fun _ h9 => h9) rfl (by decide +kernel) rfl rfl (Nat.le_of_ble_eq_true rfl) dX6_startWith_33 (fun H locs hP hD hS => ?_)
  have hP : va_P D vwCl (wX6_startWith cI cZ cM cS so sca sna sla sra qs p1 sl_1 (0 : Int32) swk scols_1 snear_1 slds_1 qc qf) H := hP
  have hD : va_D A (wX6_startWith cI cZ cM cS so sca sna sla sra qs p1 sl_1 (0 : Int32) swk scols_1 snear_1 slds_1 qc qf) := hD
  refine lv_aload_n (pc := 36) hx hb dX6_startWith_36 rfl (lv_at hl 0 rfl) ?_
  refine va_get (pc := 37) (ci := 6) (C := RX6) (T := TX6) (N := 8) hx hb hts inX6 hown hK hP 0 rfl rfl 7 (by decide) fl24 (fun _ h9 => h9) rfl dX6_startWith_37 ?_
  refine lv_aload_n (pc := 40) hx hb dX6_startWith_40 rfl (lv_at hl 0 rfl) ?_
  obtain ⟨r_1, hC4, hF⟩ := ob1_e hF
  refine zVr (pc := 41) (As := []) (rest := [.ref sra]) E (tX6_all l D cI cZ cM cS so sca sna sla sra p1 sl_1 (0 : Int32) swk hC4) 0 gX6_startWith_X6_all rfl rfl rfl (by decide +kernel) ⟨Nat.le_of_ble_eq_true rfl, Nat.le_of_ble_eq_true rfl⟩ hK hP [0] rfl 0 6 rfl rfl rfl rfl hl.1 rfl (Nat.le_of_ble_eq_true rfl) dX6_startWith_41 ⟨Nat.zero_le _, Nat.zero_le _⟩ ?_
  obtain ⟨qc_1, qf_1, hC5, hF⟩ := ob2_e hF
  refine zV (pc := 44) (As := [.int r_1]) (rest := []) (wr := [(so, .inr (6, [.int p1, .int sl_1, .int (0 : Int32), .int swk, .ref sca, .ref sna, .ref sla, .ref sra])), (sca, .inl (cI, 12, .inl scols_1)), (sna, .inl (cI, 12, .inl snear_1)), (sla, .inl (cI, 36, .inl slds_1))]) (w2 := (wX6_startWith cI cZ cM cS so sca sna sla sra qs p1 sl_1 (0 : Int32) swk scols_1 snear_1 slds_1 qc_1 qf_1)) E (tX5_gather l D cI cZ cM cS sra qs qc qf r_1 hC5) 1 gX6_startWith_X5_gather rfl rfl rfl (by decide +kernel) ⟨Nat.le_of_ble_eq_true rfl, Nat.le_of_ble_eq_true rfl⟩ hK hP hD hS hA [4, 5] [0, 1, 2, 3] [0, 1, 2, 3, 4, 5] (by decide) rfl rfl (by decide) (by decide) rfl (by decide) 0 5 rfl rfl rfl rfl hl.1 rfl (Nat.le_of_ble_eq_true rfl) dX6_startWith_44 ⟨Nat.zero_le _, Nat.zero_le _⟩ (fun H locs hP hD hS => ?_)
  refine W.eq (g2 := F0 m 47 ls []) rfl ?_
  refine lv_aload_n (pc := 47) hx hb dX6_startWith_47 rfl (lv_at hl 0 rfl) ?_
  refine lv_iconst (v := (0 : Int32)) (pc := 48) hx hb dX6_startWith_48 (by decide) ?_
  refine va_put (pc := 49) (D := D) (ci := 6) (v := .int (0 : Int32)) (ty := .int) (C := RX6) (T := TX6) (N := 8) hx hb hts inX6 tyX6 tyX6_ok nmX6 hown hK hP hD hS 0 rfl rfl 3 (by decide) fl58 (fun _ h9 => h9) rfl (by decide +kernel) rfl rfl (Nat.le_of_ble_eq_true rfl) dX6_startWith_49 (fun H locs hP hD hS => ?_)
  have hP : va_P D vwCl (wX6_startWith cI cZ cM cS so sca sna sla sra qs p1 sl_1 (0 : Int32) (0 : Int32) scols_1 snear_1 slds_1 qc_1 qf_1) H := hP
  have hD : va_D A (wX6_startWith cI cZ cM cS so sca sna sla sra qs p1 sl_1 (0 : Int32) (0 : Int32) scols_1 snear_1 slds_1 qc_1 qf_1) := hD
  cases hF
  exact hRet _ _ _ _ dX6_startWith_52 hP hD hS
def fX6_copyFrom (sn : Int32) (sl : Int32) (sfin : Int32) (swk : Int32) (scols : (Nat → Int32)) (snear : (Nat → Int32)) (slds : (Nat → Int32)) (qc : Int32) (qf : (Nat → Int32)) (tn : Int32) (tl : Int32) (tfin : Int32) (twk : Int32) (tcols : (Nat → Int32)) (tnear : (Nat → Int32)) (tlds : (Nat → Int32)) (uc : Int32) (uf : (Nat → Int32)) : Option (Int32 × Int32 × Int32 × Int32 × (Nat → Int32) × (Nat → Int32) × (Nat → Int32) × Int32 × (Nat → Int32)) := (ob2 (fX5_copyFrom qc qf uc uf) (fun qc_1 qf_1 => (some (tn, tl, tfin, twk, (va_cpy tcols scols 0 0 12), (va_cpy tnear snear 0 0 12), (va_cpy tlds slds 0 0 36), qc_1, qf_1))))
abbrev wX6_copyFrom (cI cZ cM cS : ClassId) (so sca sna sla sra qs to tca tna tla tra us : Nat) (sn : Int32) (sl : Int32) (sfin : Int32) (swk : Int32) (scols : (Nat → Int32)) (snear : (Nat → Int32)) (slds : (Nat → Int32)) (qc : Int32) (qf : (Nat → Int32)) (tn : Int32) (tl : Int32) (tfin : Int32) (twk : Int32) (tcols : (Nat → Int32)) (tnear : (Nat → Int32)) (tlds : (Nat → Int32)) (uc : Int32) (uf : (Nat → Int32)) : va_W := [(so, .inr (6, [.int sn, .int sl, .int sfin, .int swk, .ref sca, .ref sna, .ref sla, .ref sra])), (sca, .inl (cI, 12, .inl scols)), (sna, .inl (cI, 12, .inl snear)), (sla, .inl (cI, 36, .inl slds)), (sra, .inr (5, [.ref qs, .int qc])), (qs, .inl (cI, 12, .inl qf)), (to, .inr (6, [.int tn, .int tl, .int tfin, .int twk, .ref tca, .ref tna, .ref tla, .ref tra])), (tca, .inl (cI, 12, .inl tcols)), (tna, .inl (cI, 12, .inl tnear)), (tla, .inl (cI, 36, .inl tlds)), (tra, .inr (5, [.ref us, .int uc])), (us, .inl (cI, 12, .inl uf))]
set_option maxHeartbeats 4000000 in
set_option maxRecDepth 100000 in
theorem tX6_copyFrom (l : Launch) (D : va_G) (cI cZ cM cS : ClassId) (so sca sna sla sra qs to tca tna tla tra us : Nat) (sn : Int32) (sl : Int32) (sfin : Int32) (swk : Int32) (scols : (Nat → Int32)) (snear : (Nat → Int32)) (slds : (Nat → Int32)) (qc : Int32) (qf : (Nat → Int32)) (tn : Int32) (tl : Int32) (tfin : Int32) (twk : Int32) (tcols : (Nat → Int32)) (tnear : (Nat → Int32)) (tlds : (Nat → Int32)) (uc : Int32) (uf : (Nat → Int32)) {sn' : Int32} {sl' : Int32} {sfin' : Int32} {swk' : Int32} {scols' : (Nat → Int32)} {snear' : (Nat → Int32)} {slds' : (Nat → Int32)} {qc' : Int32} {qf' : (Nat → Int32)} (hF : fX6_copyFrom sn sl sfin swk scols snear slds qc qf tn tl tfin twk tcols tnear tlds uc uf = some (sn', sl', sfin', swk', scols', snear', slds', qc', qf')) : zCW l yX6_copyFrom wsX6_copyFrom (zRm 2 69) D (zTy cI cZ cM cS) [.ref so, .ref to] (wX6_copyFrom cI cZ cM cS so sca sna sla sra qs to tca tna tla tra us sn sl sfin swk scols snear slds qc qf tn tl tfin twk tcols tnear tlds uc uf) (wX6_copyFrom cI cZ cM cS so sca sna sla sra qs to tca tna tla tra us sn' sl' sfin' swk' scols' snear' slds' qc' qf' tn tl tfin twk tcols tnear tlds uc uf) none := by
  unfold fX6_copyFrom at hF
  refine zCW_ofv (cc := cX6_copyFrom) (maxL := 2) (own := RX6) (by decide) rfl rfl (Nat.le_of_ble_eq_true rfl) (fun p e s m args below meth c Q ls A E hA hK hP hD hRet hS hl => ?_)
  refine zgen (fun H locs hP hS => ?_) hP hS
  have hl : lv_has ls 2 [(0, .ref so), (1, .ref to)] := hl
  obtain ⟨hx, hb, hml, hown, hts⟩ := id E
  have inX6 : ∀ w ∈ u_ws RX6 TX6 8, w ∈ wsX6_copyFrom := by decide +kernel
  have fl15 := hts (.fieldLink RX6 15 "SplitClasses$State" "nearSets" "[I") (by decide +kernel)
  have fl18 := hts (.fieldLink RX6 18 "SplitClasses$State" "leads" "[I") (by decide +kernel)
  have fl24 := hts (.fieldLink RX6 24 "SplitClasses$State" "row" "LSplitClasses$Row;") (by decide +kernel)
  have fl32 := hts (.fieldLink RX6 32 "SplitClasses$State" "n" "I") (by decide +kernel)
  have fl42 := hts (.fieldLink RX6 42 "SplitClasses$State" "letterCount" "I") (by decide +kernel)
  have fl48 := hts (.fieldLink RX6 48 "SplitClasses$State" "finalSet" "I") (by decide +kernel)
  have fl58 := hts (.fieldLink RX6 58 "SplitClasses$State" "work" "I") (by decide +kernel)
  have fl9 := hts (.fieldLink RX6 9 "SplitClasses$State" "columnSets" "[I") (by decide +kernel)
  refine lv_aload_n (pc := 0) hx hb dX6_copyFrom_0 rfl (lv_at hl 0 rfl) ?_
  refine lv_aload_n (pc := 1) hx hb dX6_copyFrom_1 rfl (lv_at hl 1 rfl) ?_
  refine va_get (pc := 2) (ci := 6) (C := RX6) (T := TX6) (N := 8) hx hb hts inX6 hown hK hP 6 rfl rfl 0 (by decide) fl32 (fun _ h9 => h9) rfl dX6_copyFrom_2 ?_
  refine va_put (pc := 5) (D := D) (ci := 6) (v := .int tn) (ty := .int) (C := RX6) (T := TX6) (N := 8) hx hb hts inX6 tyX6 tyX6_ok nmX6 hown hK hP hD hS 0 rfl rfl 0 (by decide) fl32 (fun _ h9 => h9) rfl (by decide +kernel) rfl rfl (Nat.le_of_ble_eq_true rfl) dX6_copyFrom_5 (fun H locs hP hD hS => ?_)
  have hP : va_P D vwCl (wX6_copyFrom cI cZ cM cS so sca sna sla sra qs to tca tna tla tra us tn sl sfin swk scols snear slds qc qf tn tl tfin twk tcols tnear tlds uc uf) H := hP
  have hD : va_D A (wX6_copyFrom cI cZ cM cS so sca sna sla sra qs to tca tna tla tra us tn sl sfin swk scols snear slds qc qf tn tl tfin twk tcols tnear tlds uc uf) := hD
  refine lv_aload_n (pc := 8) hx hb dX6_copyFrom_8 rfl (lv_at hl 0 rfl) ?_
  refine lv_aload_n (pc := 9) hx hb dX6_copyFrom_9 rfl (lv_at hl 1 rfl) ?_
  refine va_get (pc := 10) (ci := 6) (C := RX6) (T := TX6) (N := 8) hx hb hts inX6 hown hK hP 6 rfl rfl 1 (by decide) fl42 (fun _ h9 => h9) rfl dX6_copyFrom_10 ?_
  refine va_put (pc := 13) (D := D) (ci := 6) (v := .int tl) (ty := .int) (C := RX6) (T := TX6) (N := 8) hx hb hts inX6 tyX6 tyX6_ok nmX6 hown hK hP hD hS 0 rfl rfl 1 (by decide) fl42 (fun _ h9 => h9) rfl (by decide +kernel) rfl rfl (Nat.le_of_ble_eq_true rfl) dX6_copyFrom_13 (fun H locs hP hD hS => ?_)
  have hP : va_P D vwCl (wX6_copyFrom cI cZ cM cS so sca sna sla sra qs to tca tna tla tra us tn tl sfin swk scols snear slds qc qf tn tl tfin twk tcols tnear tlds uc uf) H := hP
  have hD : va_D A (wX6_copyFrom cI cZ cM cS so sca sna sla sra qs to tca tna tla tra us tn tl sfin swk scols snear slds qc qf tn tl tfin twk tcols tnear tlds uc uf) := hD
  refine lv_aload_n (pc := 16) hx hb dX6_copyFrom_16 rfl (lv_at hl 0 rfl) ?_
  refine lv_aload_n (pc := 17) hx hb dX6_copyFrom_17 rfl (lv_at hl 1 rfl) ?_
  refine va_get (pc := 18) (ci := 6) (C := RX6) (T := TX6) (N := 8) hx hb hts inX6 hown hK hP 6 rfl rfl 2 (by decide) fl48 (fun _ h9 => h9) rfl dX6_copyFrom_18 ?_
  refine va_put (pc := 21) (D := D) (ci := 6) (v := .int tfin) (ty := .int) (C := RX6) (T := TX6) (N := 8) hx hb hts inX6 tyX6 tyX6_ok nmX6 hown hK hP hD hS 0 rfl rfl 2 (by decide) fl48 (fun _ h9 => h9) rfl (by decide +kernel) rfl rfl (Nat.le_of_ble_eq_true rfl) dX6_copyFrom_21 (fun H locs hP hD hS => ?_)
  have hP : va_P D vwCl (wX6_copyFrom cI cZ cM cS so sca sna sla sra qs to tca tna tla tra us tn tl tfin swk scols snear slds qc qf tn tl tfin twk tcols tnear tlds uc uf) H := hP
  have hD : va_D A (wX6_copyFrom cI cZ cM cS so sca sna sla sra qs to tca tna tla tra us tn tl tfin swk scols snear slds qc qf tn tl tfin twk tcols tnear tlds uc uf) := hD
  refine lv_aload_n (pc := 24) hx hb dX6_copyFrom_24 rfl (lv_at hl 0 rfl) ?_
  refine lv_aload_n (pc := 25) hx hb dX6_copyFrom_25 rfl (lv_at hl 1 rfl) ?_
  refine va_get (pc := 26) (ci := 6) (C := RX6) (T := TX6) (N := 8) hx hb hts inX6 hown hK hP 6 rfl rfl 3 (by decide) fl58 (fun _ h9 => h9) rfl dX6_copyFrom_26 ?_
  refine va_put (pc := 29) (D := D) (ci := 6) (v := .int twk) (ty := .int) (C := RX6) (T := TX6) (N := 8) hx hb hts inX6 tyX6 tyX6_ok nmX6 hown hK hP hD hS 0 rfl rfl 3 (by decide) fl58 (fun _ h9 => h9) rfl (by decide +kernel) rfl rfl (Nat.le_of_ble_eq_true rfl) dX6_copyFrom_29 (fun H locs hP hD hS => ?_)
  have hP : va_P D vwCl (wX6_copyFrom cI cZ cM cS so sca sna sla sra qs to tca tna tla tra us tn tl tfin twk scols snear slds qc qf tn tl tfin twk tcols tnear tlds uc uf) H := hP
  have hD : va_D A (wX6_copyFrom cI cZ cM cS so sca sna sla sra qs to tca tna tla tra us tn tl tfin twk scols snear slds qc qf tn tl tfin twk tcols tnear tlds uc uf) := hD
  refine lv_aload_n (pc := 32) hx hb dX6_copyFrom_32 rfl (lv_at hl 1 rfl) ?_
  refine va_get (pc := 33) (ci := 6) (C := RX6) (T := TX6) (N := 8) hx hb hts inX6 hown hK hP 6 rfl rfl 4 (by decide) fl9 (fun _ h9 => h9) rfl dX6_copyFrom_33 ?_
  refine lv_iconst (v := (0 : Int32)) (pc := 36) hx hb dX6_copyFrom_36 (by decide) ?_
  refine lv_aload_n (pc := 37) hx hb dX6_copyFrom_37 rfl (lv_at hl 0 rfl) ?_
  refine va_get (pc := 38) (ci := 6) (C := RX6) (T := TX6) (N := 8) hx hb hts inX6 hown hK hP 0 rfl rfl 4 (by decide) fl9 (fun _ h9 => h9) rfl dX6_copyFrom_38 ?_
  refine lv_iconst (v := (0 : Int32)) (pc := 41) hx hb dX6_copyFrom_41 (by decide) ?_
  refine lv_bipush (v := (12 : Int32)) (pc := 42) hx hb dX6_copyFrom_42 (by decide) ?_
  refine va_copyi (pc := 44) (ty := .int) (D := D) hx hb (hml.trans hl.1.symm) hown (hts (.methodLink RX6 61 arraycopyName) (by decide +kernel)) (hts (.native arraycopyName) (by decide +kernel)) (hts (.static arraycopyName) (by decide +kernel)) (hts (.initialized "java/lang/System") (by decide +kernel)) hK hP hD hS 7 1 0 0 rfl rfl rfl rfl rfl (by decide) (by decide) (by decide) (by decide) (by decide) (fun i _ => rfl) (Nat.le_of_ble_eq_true rfl) (Nat.le_of_ble_eq_true rfl) dX6_copyFrom_44 (fun H locs hP hD hS => ?_)
  have hP : va_P D vwCl (wX6_copyFrom cI cZ cM cS so sca sna sla sra qs to tca tna tla tra us tn tl tfin twk (va_cpy tcols scols 0 0 12) snear slds qc qf tn tl tfin twk tcols tnear tlds uc uf) H := hP
  have hD : va_D A (wX6_copyFrom cI cZ cM cS so sca sna sla sra qs to tca tna tla tra us tn tl tfin twk (va_cpy tcols scols 0 0 12) snear slds qc qf tn tl tfin twk tcols tnear tlds uc uf) := hD
  refine lv_aload_n (pc := 47) hx hb dX6_copyFrom_47 rfl (lv_at hl 1 rfl) ?_
  refine va_get (pc := 48) (ci := 6) (C := RX6) (T := TX6) (N := 8) hx hb hts inX6 hown hK hP 6 rfl rfl 5 (by decide) fl15 (fun _ h9 => h9) rfl dX6_copyFrom_48 ?_
  refine lv_iconst (v := (0 : Int32)) (pc := 51) hx hb dX6_copyFrom_51 (by decide) ?_
  refine lv_aload_n (pc := 52) hx hb dX6_copyFrom_52 rfl (lv_at hl 0 rfl) ?_
  refine va_get (pc := 53) (ci := 6) (C := RX6) (T := TX6) (N := 8) hx hb hts inX6 hown hK hP 0 rfl rfl 5 (by decide) fl15 (fun _ h9 => h9) rfl dX6_copyFrom_53 ?_
  refine lv_iconst (v := (0 : Int32)) (pc := 56) hx hb dX6_copyFrom_56 (by decide) ?_
  refine lv_bipush (v := (12 : Int32)) (pc := 57) hx hb dX6_copyFrom_57 (by decide) ?_
  refine va_copyi (pc := 59) (ty := .int) (D := D) hx hb (hml.trans hl.1.symm) hown (hts (.methodLink RX6 61 arraycopyName) (by decide +kernel)) (hts (.native arraycopyName) (by decide +kernel)) (hts (.static arraycopyName) (by decide +kernel)) (hts (.initialized "java/lang/System") (by decide +kernel)) hK hP hD hS 8 2 0 0 rfl rfl rfl rfl rfl (by decide) (by decide) (by decide) (by decide) (by decide) (fun i _ => rfl) (Nat.le_of_ble_eq_true rfl) (Nat.le_of_ble_eq_true rfl) dX6_copyFrom_59 (fun H locs hP hD hS => ?_)
  have hP : va_P D vwCl (wX6_copyFrom cI cZ cM cS so sca sna sla sra qs to tca tna tla tra us tn tl tfin twk (va_cpy tcols scols 0 0 12) (va_cpy tnear snear 0 0 12) slds qc qf tn tl tfin twk tcols tnear tlds uc uf) H := hP
  have hD : va_D A (wX6_copyFrom cI cZ cM cS so sca sna sla sra qs to tca tna tla tra us tn tl tfin twk (va_cpy tcols scols 0 0 12) (va_cpy tnear snear 0 0 12) slds qc qf tn tl tfin twk tcols tnear tlds uc uf) := hD
  refine lv_aload_n (pc := 62) hx hb dX6_copyFrom_62 rfl (lv_at hl 1 rfl) ?_
  refine va_get (pc := 63) (ci := 6) (C := RX6) (T := TX6) (N := 8) hx hb hts inX6 hown hK hP 6 rfl rfl 6 (by decide) fl18 (fun _ h9 => h9) rfl dX6_copyFrom_63 ?_
  refine lv_iconst (v := (0 : Int32)) (pc := 66) hx hb dX6_copyFrom_66 (by decide) ?_
  refine lv_aload_n (pc := 67) hx hb dX6_copyFrom_67 rfl (lv_at hl 0 rfl) ?_
  refine va_get (pc := 68) (ci := 6) (C := RX6) (T := TX6) (N := 8) hx hb hts inX6 hown hK hP 0 rfl rfl 6 (by decide) fl18 (fun _ h9 => h9) rfl dX6_copyFrom_68 ?_
  refine lv_iconst (v := (0 : Int32)) (pc := 71) hx hb dX6_copyFrom_71 (by decide) ?_
  refine lv_bipush (v := (36 : Int32)) (pc := 72) hx hb dX6_copyFrom_72 (by decide) ?_
  refine va_copyi (pc := 74) (ty := .int) (D := D) hx hb (hml.trans hl.1.symm) hown (hts (.methodLink RX6 61 arraycopyName) (by decide +kernel)) (hts (.native arraycopyName) (by decide +kernel)) (hts (.static arraycopyName) (by decide +kernel)) (hts (.initialized "java/lang/System") (by decide +kernel)) hK hP hD hS 9 3 0 0 rfl rfl rfl rfl rfl (by decide) (by decide) (by decide) (by decide) (by decide) (fun i _ => rfl) (Nat.le_of_ble_eq_true rfl) (Nat.le_of_ble_eq_true rfl) dX6_copyFrom_74 (fun H locs hP hD hS => ?_)
  have hP : va_P D vwCl (wX6_copyFrom cI cZ cM cS so sca sna sla sra qs to tca tna tla tra us tn tl tfin twk (va_cpy tcols scols 0 0 12) (va_cpy tnear snear 0 0 12) (va_cpy tlds slds 0 0 36) qc qf tn tl tfin twk tcols tnear tlds uc uf) H := hP
  have hD : va_D A (wX6_copyFrom cI cZ cM cS so sca sna sla sra qs to tca tna tla tra us tn tl tfin twk (va_cpy tcols scols 0 0 12) (va_cpy tnear snear 0 0 12) (va_cpy tlds slds 0 0 36) qc qf tn tl tfin twk tcols tnear tlds uc uf) := hD
  refine lv_aload_n (pc := 77) hx hb dX6_copyFrom_77 rfl (lv_at hl 0 rfl) ?_
  refine va_get (pc := 78) (ci := 6) (C := RX6) (T := TX6) (N := 8) hx hb hts inX6 hown hK hP 0 rfl rfl 7 (by decide) fl24 (fun _ h9 => h9) rfl dX6_copyFrom_78 ?_
  refine lv_aload_n (pc := 81) hx hb dX6_copyFrom_81 rfl (lv_at hl 1 rfl) ?_
  refine va_get (pc := 82) (ci := 6) (C := RX6) (T := TX6) (N := 8) hx hb hts inX6 hown hK hP 6 rfl rfl 7 (by decide) fl24 (fun _ h9 => h9) rfl dX6_copyFrom_82 ?_
  obtain ⟨qc_1, qf_1, hC1, hF⟩ := ob2_e hF
  refine zV (pc := 85) (As := [.ref tra]) (rest := []) (wr := [(so, .inr (6, [.int tn, .int tl, .int tfin, .int twk, .ref sca, .ref sna, .ref sla, .ref sra])), (sca, .inl (cI, 12, .inl (va_cpy tcols scols 0 0 12))), (sna, .inl (cI, 12, .inl (va_cpy tnear snear 0 0 12))), (sla, .inl (cI, 36, .inl (va_cpy tlds slds 0 0 36))), (to, .inr (6, [.int tn, .int tl, .int tfin, .int twk, .ref tca, .ref tna, .ref tla, .ref tra])), (tca, .inl (cI, 12, .inl tcols)), (tna, .inl (cI, 12, .inl tnear)), (tla, .inl (cI, 36, .inl tlds))]) (w2 := (wX6_copyFrom cI cZ cM cS so sca sna sla sra qs to tca tna tla tra us tn tl tfin twk (va_cpy tcols scols 0 0 12) (va_cpy tnear snear 0 0 12) (va_cpy tlds slds 0 0 36) qc_1 qf_1 tn tl tfin twk tcols tnear tlds uc uf)) E (tX5_copyFrom l D cI cZ cM cS sra qs tra us qc qf uc uf hC1) 1 gX6_copyFrom_X5_copyFrom rfl rfl rfl (by decide +kernel) ⟨Nat.le_of_ble_eq_true rfl, Nat.le_of_ble_eq_true rfl⟩ hK hP hD hS hA [4, 5, 10, 11] [0, 1, 2, 3, 6, 7, 8, 9] [0, 1, 2, 3, 8, 9, 4, 5, 6, 7, 10, 11] (by decide) rfl rfl (by decide) (by decide) rfl (by decide) 0 5 rfl rfl rfl rfl hl.1 rfl (Nat.le_of_ble_eq_true rfl) dX6_copyFrom_85 ⟨Nat.zero_le _, Nat.zero_le _⟩ (fun H locs hP hD hS => ?_)
  refine W.eq (g2 := F0 m 88 ls []) rfl ?_
  cases hF
  exact hRet _ _ _ _ dX6_copyFrom_88 hP hD hS
def fX0_append (p1 : Int32) (p2 : Int32) (bn : Int32) (bits : (Nat → Int32)) (bcls : (Nat → Int32)) : Option (Int32 × (Nat → Int32) × (Nat → Int32)) := (if (20 : Int32) ≤ bn then (some (bn, bits, bcls)) else (ogd bn 20 (ogd bn 20 (some ((bn + (1 : Int32)), (upd bits (Int32.toNatClampNeg bn) p1), (upd bcls (Int32.toNatClampNeg bn) p2))))))
abbrev wX0_append (cI cZ cM cS : ClassId) (bo bi bk : Nat) (bn : Int32) (bits : (Nat → Int32)) (bcls : (Nat → Int32)) : va_W := [(bo, .inr (0, [.ref bi, .ref bk, .int bn])), (bi, .inl (cI, 20, .inl bits)), (bk, .inl (cI, 20, .inl bcls))]
set_option maxHeartbeats 4000000 in
set_option maxRecDepth 100000 in
theorem tX0_append (l : Launch) (D : va_G) (cI cZ cM cS : ClassId) (bo bi bk : Nat) (bn : Int32) (bits : (Nat → Int32)) (bcls : (Nat → Int32)) (p1 : Int32) (p2 : Int32) {bn' : Int32} {bits' : (Nat → Int32)} {bcls' : (Nat → Int32)} (hF : fX0_append p1 p2 bn bits bcls = some (bn', bits', bcls')) : zCW l yX0_append wsX0_append (zRm 0 0) D (zTy cI cZ cM cS) [.ref bo, .int p1, .int p2] (wX0_append cI cZ cM cS bo bi bk bn bits bcls) (wX0_append cI cZ cM cS bo bi bk bn' bits' bcls') none := by
  unfold fX0_append at hF
  refine zCW_ofv (cc := cX0_append) (maxL := 3) (own := RX0) (by decide) rfl rfl (Nat.le_of_ble_eq_true rfl) (fun p e s m args below meth c Q ls A E hA hK hP hD hRet hS hl => ?_)
  refine zgen (fun H locs hP hS => ?_) hP hS
  have hl : lv_has ls 3 [(0, .ref bo), (1, .int p1), (2, .int p2)] := hl
  obtain ⟨hx, hb, hml, hown, hts⟩ := id E
  have inX0 : ∀ w ∈ u_ws RX0 TX0 3, w ∈ wsX0_append := by decide +kernel
  have fl15 := hts (.fieldLink RX0 15 "SplitClasses$Book" "entryClasses" "[I") (by decide +kernel)
  have fl18 := hts (.fieldLink RX0 18 "SplitClasses$Book" "size" "I") (by decide +kernel)
  have fl9 := hts (.fieldLink RX0 9 "SplitClasses$Book" "entryItems" "[I") (by decide +kernel)
  refine lv_aload_n (pc := 0) hx hb dX0_append_0 rfl (lv_at hl 0 rfl) ?_
  refine va_get (pc := 1) (ci := 0) (C := RX0) (T := TX0) (N := 3) hx hb hts inX0 hown hK hP 0 rfl rfl 2 (by decide) fl18 (fun _ h9 => h9) rfl dX0_append_1 ?_
  refine lv_bipush (v := (20 : Int32)) (pc := 4) hx hb dX0_append_4 (by decide) ?_
  refine lv_icmp_ge (pc := 6) (tgt := 39) hx hb dX0_append_6 (by decide) (fun hc => ?_) (fun hc => ?_)
  · have hF := oif_t hF hc
    cases hF
    exact hRet _ _ _ _ dX0_append_39 hP hD hS
  · have hF := oif_f hF hc
    refine lv_aload_n (pc := 9) hx hb dX0_append_9 rfl (lv_at hl 0 rfl) ?_
    refine va_get (pc := 10) (ci := 0) (C := RX0) (T := TX0) (N := 3) hx hb hts inX0 hown hK hP 0 rfl rfl 0 (by decide) fl9 (fun _ h9 => h9) rfl dX0_append_10 ?_
    refine lv_aload_n (pc := 13) hx hb dX0_append_13 rfl (lv_at hl 0 rfl) ?_
    refine va_get (pc := 14) (ci := 0) (C := RX0) (T := TX0) (N := 3) hx hb hts inX0 hown hK hP 0 rfl rfl 2 (by decide) fl18 (fun _ h9 => h9) rfl dX0_append_14 ?_
    refine lv_iload_n (pc := 17) hx hb dX0_append_17 rfl (lv_at hl 1 rfl) ?_
    obtain ⟨hg1, hF⟩ := ogd_e hF
    refine va_iast (pc := 18) hx hb hK hP hD hS 1 0 rfl rfl hg1 dX0_append_18 (fun H locs hP hD hS => ?_)
    have hP : va_P D vwCl (wX0_append cI cZ cM cS bo bi bk bn (upd bits (Int32.toNatClampNeg bn) p1) bcls) H := hP
    have hD : va_D A (wX0_append cI cZ cM cS bo bi bk bn (upd bits (Int32.toNatClampNeg bn) p1) bcls) := hD
    refine lv_aload_n (pc := 19) hx hb dX0_append_19 rfl (lv_at hl 0 rfl) ?_
    refine va_get (pc := 20) (ci := 0) (C := RX0) (T := TX0) (N := 3) hx hb hts inX0 hown hK hP 0 rfl rfl 1 (by decide) fl15 (fun _ h9 => h9) rfl dX0_append_20 ?_
    refine lv_aload_n (pc := 23) hx hb dX0_append_23 rfl (lv_at hl 0 rfl) ?_
    refine va_get (pc := 24) (ci := 0) (C := RX0) (T := TX0) (N := 3) hx hb hts inX0 hown hK hP 0 rfl rfl 2 (by decide) fl18 (fun _ h9 => h9) rfl dX0_append_24 ?_
    refine lv_iload_n (pc := 27) hx hb dX0_append_27 rfl (lv_at hl 2 rfl) ?_
    obtain ⟨hg2, hF⟩ := ogd_e hF
    refine va_iast (pc := 28) hx hb hK hP hD hS 2 0 rfl rfl hg2 dX0_append_28 (fun H locs hP hD hS => ?_)
    have hP : va_P D vwCl (wX0_append cI cZ cM cS bo bi bk bn (upd bits (Int32.toNatClampNeg bn) p1) (upd bcls (Int32.toNatClampNeg bn) p2)) H := hP
    have hD : va_D A (wX0_append cI cZ cM cS bo bi bk bn (upd bits (Int32.toNatClampNeg bn) p1) (upd bcls (Int32.toNatClampNeg bn) p2)) := hD
    refine lv_aload_n (pc := 29) hx hb dX0_append_29 rfl (lv_at hl 0 rfl) ?_
    refine lv_dup (pc := 30) hx hb dX0_append_30 rfl ?_
    refine va_get (pc := 31) (ci := 0) (C := RX0) (T := TX0) (N := 3) hx hb hts inX0 hown hK hP 0 rfl rfl 2 (by decide) fl18 (fun _ h9 => h9) rfl dX0_append_31 ?_
    refine lv_iconst (v := (1 : Int32)) (pc := 34) hx hb dX0_append_34 (by decide) ?_
    refine lv_iadd (pc := 35) hx hb dX0_append_35 ?_
    refine va_put (pc := 36) (D := D) (ci := 0) (v := .int (bn + (1 : Int32))) (ty := .int) (C := RX0) (T := TX0) (N := 3) hx hb hts inX0 tyX0 tyX0_ok nmX0 hown hK hP hD hS 0 rfl rfl 2 (by decide) fl18 (fun _ h9 => h9) rfl (by decide +kernel) rfl rfl (Nat.le_of_ble_eq_true rfl) dX0_append_36 (fun H locs hP hD hS => ?_)
    have hP : va_P D vwCl (wX0_append cI cZ cM cS bo bi bk (bn + (1 : Int32)) (upd bits (Int32.toNatClampNeg bn) p1) (upd bcls (Int32.toNatClampNeg bn) p2)) H := hP
    have hD : va_D A (wX0_append cI cZ cM cS bo bi bk (bn + (1 : Int32)) (upd bits (Int32.toNatClampNeg bn) p1) (upd bcls (Int32.toNatClampNeg bn) p2)) := hD
    cases hF
    exact hRet _ _ _ _ dX0_append_39 hP hD hS
def fX0_firstWrong_b2 (bn : Int32) (bits : (Nat → Int32)) (sn : Int32) (sl : Int32) (sfin : Int32) (swk : Int32) (qc : Int32) (qf : (Nat → Int32)) (bcls : (Nat → Int32)) (x2_2 : Int32) : Option ((Int32) ⊕ (Int32)) := (if bn ≤ x2_2 then (some (.inr (-1 : Int32))) else (ogd x2_2 20 (ob1 (fX6_hasItem (bits (Int32.toNatClampNeg x2_2)) sn sl sfin swk) (fun r_3 => (if r_3 = (0 : Int32) then (some (.inr x2_2)) else (ogd x2_2 20 (ob1 (fX5_placeOf (bits (Int32.toNatClampNeg x2_2)) qc qf) (fun r_4 => (ogd x2_2 20 (if r_4 = (bcls (Int32.toNatClampNeg x2_2)) then (some (.inl (x2_2 + (1 : Int32)))) else (some (.inr x2_2))))))))))))
def fX0_firstWrong_s2 (bn : Int32) (bits : (Nat → Int32)) (sn : Int32) (sl : Int32) (sfin : Int32) (swk : Int32) (qc : Int32) (qf : (Nat → Int32)) (bcls : (Nat → Int32)) (sg_ : Int32) : Option ((Int32) ⊕ (Int32)) := fX0_firstWrong_b2 bn bits sn sl sfin swk qc qf bcls sg_
def fX0_firstWrong (bn : Int32) (bits : (Nat → Int32)) (bcls : (Nat → Int32)) (sn : Int32) (sl : Int32) (sfin : Int32) (swk : Int32) (qc : Int32) (qf : (Nat → Int32)) : Option (Int32) := (olp (fX0_firstWrong_s2 bn bits sn sl sfin swk qc qf bcls) oFu (0 : Int32))
abbrev wX0_firstWrong (cI cZ cM cS : ClassId) (bo bi bk so sca sna sla sra qs : Nat) (bn : Int32) (bits : (Nat → Int32)) (bcls : (Nat → Int32)) (sn : Int32) (sl : Int32) (sfin : Int32) (swk : Int32) (qc : Int32) (qf : (Nat → Int32)) : va_W := [(bo, .inr (0, [.ref bi, .ref bk, .int bn])), (bi, .inl (cI, 20, .inl bits)), (bk, .inl (cI, 20, .inl bcls)), (so, .inr (6, [.int sn, .int sl, .int sfin, .int swk, .ref sca, .ref sna, .ref sla, .ref sra])), (sra, .inr (5, [.ref qs, .int qc])), (qs, .inl (cI, 12, .inl qf))]
set_option maxHeartbeats 4000000 in
set_option maxRecDepth 100000 in
theorem tX0_firstWrong (l : Launch) (D : va_G) (cI cZ cM cS : ClassId) (bo bi bk so sca sna sla sra qs : Nat) (bn : Int32) (bits : (Nat → Int32)) (bcls : (Nat → Int32)) (sn : Int32) (sl : Int32) (sfin : Int32) (swk : Int32) (qc : Int32) (qf : (Nat → Int32)) {r : Int32} (hF : fX0_firstWrong bn bits bcls sn sl sfin swk qc qf = some r) : zCR l yX0_firstWrong wsX0_firstWrong (zRm 1 22) D (zTy cI cZ cM cS) [.ref bo, .ref so] (wX0_firstWrong cI cZ cM cS bo bi bk so sca sna sla sra qs bn bits bcls sn sl sfin swk qc qf) r := by
  unfold fX0_firstWrong at hF
  refine zCR_of (cc := cX0_firstWrong) (maxL := 3) (own := RX0) (by decide +kernel) rfl rfl (Nat.le_of_ble_eq_true rfl) (fun p e s m args below meth c Q ls E hK hP hRet hl => ?_)
  have hl : lv_has ls 3 [(0, .ref bo), (1, .ref so)] := hl
  obtain ⟨hx, hb, hml, hown, hts⟩ := id E
  have inX0 : ∀ w ∈ u_ws RX0 TX0 3, w ∈ wsX0_firstWrong := by decide +kernel
  have inX6 : ∀ w ∈ u_ws RX6 TX6 8, w ∈ wsX0_firstWrong := by decide +kernel
  have fl15 := hts (.fieldLink RX0 15 "SplitClasses$Book" "entryClasses" "[I") (by decide +kernel)
  have fl18 := hts (.fieldLink RX0 18 "SplitClasses$Book" "size" "I") (by decide +kernel)
  have fl28 := hts (.fieldLink RX0 28 "SplitClasses$State" "row" "LSplitClasses$Row;") (by decide +kernel)
  have fl9 := hts (.fieldLink RX0 9 "SplitClasses$Book" "entryItems" "[I") (by decide +kernel)
  refine lv_iconst (v := (0 : Int32)) (pc := 0) hx hb dX0_firstWrong_0 (by decide) ?_
  refine lv_istore_n (lv' := [(2, .int (0 : Int32)), (0, .ref bo), (1, .ref so)]) (pc := 1) hx hb dX0_firstWrong_1 rfl hl (by decide) rfl (fun ls hl => ?_)
  have hL6 := hF
  have lp6 : ∀ (n : Nat) (x2_2 : Int32) (ls : Array Slot), olp (fX0_firstWrong_s2 bn bits sn sl sfin swk qc qf bcls) n x2_2 = some r → lv_has ls 3 [(2, .int x2_2), (0, .ref bo), (1, .ref so)] → W p l e (zRm 1 22) s m args below meth c s.heap [] 0 0 Q (F0 m 2 ls []) := by
    intro n
    induction n with
    | zero => intro x2_2 ls hL; exact olp_0 hL
    | succ n ih =>
      intro x2_2 ls hL6 hl
      obtain ⟨z, hz6, hL6⟩ := olp_e hL6
      have hz6 : fX0_firstWrong_b2 bn bits sn sl sfin swk qc qf bcls x2_2 = some z := hz6
      unfold fX0_firstWrong_b2 at hz6
      refine lv_iload_n (pc := 2) hx hb dX0_firstWrong_2 rfl (lv_at hl 0 rfl) ?_
      refine lv_aload_n (pc := 3) hx hb dX0_firstWrong_3 rfl (lv_at hl 1 rfl) ?_
      refine va_get (pc := 4) (ci := 0) (C := RX0) (T := TX0) (N := 3) hx hb hts inX0 hown hK hP 0 rfl rfl 2 (by decide) fl18 (fun _ h9 => h9) rfl dX0_firstWrong_4 ?_
      refine lv_icmp_ge (pc := 7) (tgt := 53) hx hb dX0_firstWrong_7 (by decide) (fun hc => ?_) (fun hc => ?_)
      · have hz6 := oif_t hz6 hc
        refine lv_iconst (v := (-1 : Int32)) (pc := 53) hx hb dX0_firstWrong_53 (by decide) ?_
        have hE := olp_r hz6 hL6
        cases hE
        exact hRet _ _ rfl dX0_firstWrong_54
      · have hz6 := oif_f hz6 hc
        refine lv_aload_n (pc := 10) hx hb dX0_firstWrong_10 rfl (lv_at hl 2 rfl) ?_
        refine lv_aload_n (pc := 11) hx hb dX0_firstWrong_11 rfl (lv_at hl 1 rfl) ?_
        refine va_get (pc := 12) (ci := 0) (C := RX0) (T := TX0) (N := 3) hx hb hts inX0 hown hK hP 0 rfl rfl 0 (by decide) fl9 (fun _ h9 => h9) rfl dX0_firstWrong_12 ?_
        refine lv_iload_n (pc := 15) hx hb dX0_firstWrong_15 rfl (lv_at hl 0 rfl) ?_
        obtain ⟨hg7, hz6⟩ := ogd_e hz6
        refine va_iald (pc := 16) hx hb hK hP 1 0 rfl rfl hg7 dX0_firstWrong_16 ?_
        obtain ⟨r_3, hC8, hz6⟩ := ob1_e hz6
        refine zVr (pc := 17) (As := [.int (bits (Int32.toNatClampNeg x2_2))]) (rest := []) E (tX6_hasItem l D cI cZ cM cS so sca sna sla sra sn sl sfin swk (bits (Int32.toNatClampNeg x2_2)) hC8) 1 gX0_firstWrong_X6_hasItem rfl rfl rfl (by decide +kernel) ⟨Nat.le_of_ble_eq_true rfl, Nat.le_of_ble_eq_true rfl⟩ hK hP [3] rfl 0 6 rfl rfl rfl rfl hl.1 rfl (Nat.le_of_ble_eq_true rfl) dX0_firstWrong_17 ⟨Nat.zero_le _, Nat.zero_le _⟩ ?_
        refine lv_if_eq (pc := 20) (tgt := 45) hx hb dX0_firstWrong_20 (by decide) (fun hc => ?_) (fun hc => ?_)
        · have hz6 := oif_t hz6 hc
          refine lv_iload_n (pc := 45) hx hb dX0_firstWrong_45 rfl (lv_at hl 0 rfl) ?_
          have hE := olp_r hz6 hL6
          cases hE
          exact hRet _ _ rfl dX0_firstWrong_46
        · have hz6 := oif_f hz6 hc
          refine lv_aload_n (pc := 23) hx hb dX0_firstWrong_23 rfl (lv_at hl 2 rfl) ?_
          refine va_get (pc := 24) (ci := 6) (C := RX6) (T := TX6) (N := 8) hx hb hts inX6 hown hK hP 3 rfl rfl 7 (by decide) fl28 (fun _ h9 => h9) rfl dX0_firstWrong_24 ?_
          refine lv_aload_n (pc := 27) hx hb dX0_firstWrong_27 rfl (lv_at hl 1 rfl) ?_
          refine va_get (pc := 28) (ci := 0) (C := RX0) (T := TX0) (N := 3) hx hb hts inX0 hown hK hP 0 rfl rfl 0 (by decide) fl9 (fun _ h9 => h9) rfl dX0_firstWrong_28 ?_
          refine lv_iload_n (pc := 31) hx hb dX0_firstWrong_31 rfl (lv_at hl 0 rfl) ?_
          obtain ⟨hg9, hz6⟩ := ogd_e hz6
          refine va_iald (pc := 32) hx hb hK hP 1 0 rfl rfl hg9 dX0_firstWrong_32 ?_
          obtain ⟨r_4, hC10, hz6⟩ := ob1_e hz6
          refine zVr (pc := 33) (As := [.int (bits (Int32.toNatClampNeg x2_2))]) (rest := []) E (tX5_placeOf l D cI cZ cM cS sra qs qc qf (bits (Int32.toNatClampNeg x2_2)) hC10) 1 gX0_firstWrong_X5_placeOf rfl rfl rfl (by decide +kernel) ⟨Nat.le_of_ble_eq_true rfl, Nat.le_of_ble_eq_true rfl⟩ hK hP [4, 5] rfl 0 5 rfl rfl rfl rfl hl.1 rfl (Nat.le_of_ble_eq_true rfl) dX0_firstWrong_33 ⟨Nat.zero_le _, Nat.zero_le _⟩ ?_
          refine lv_aload_n (pc := 36) hx hb dX0_firstWrong_36 rfl (lv_at hl 1 rfl) ?_
          refine va_get (pc := 37) (ci := 0) (C := RX0) (T := TX0) (N := 3) hx hb hts inX0 hown hK hP 0 rfl rfl 1 (by decide) fl15 (fun _ h9 => h9) rfl dX0_firstWrong_37 ?_
          refine lv_iload_n (pc := 40) hx hb dX0_firstWrong_40 rfl (lv_at hl 0 rfl) ?_
          obtain ⟨hg11, hz6⟩ := ogd_e hz6
          refine va_iald (pc := 41) hx hb hK hP 2 0 rfl rfl hg11 dX0_firstWrong_41 ?_
          refine lv_icmp_eq (pc := 42) (tgt := 47) hx hb dX0_firstWrong_42 (by decide) (fun hc => ?_) (fun hc => ?_)
          · have hz6 := oif_t hz6 hc
            refine lv_iinc (v := (x2_2 + (1 : Int32))) (lv' := [(2, .int (x2_2 + (1 : Int32))), (0, .ref bo), (1, .ref so)]) (pc := 47) hx hb dX0_firstWrong_47 hl (k := 0) rfl rfl (by decide) rfl (fun ls hl => ?_)
            refine lv_goto (pc := 50) (tgt := 2) hx hb dX0_firstWrong_50 (by decide) ?_
            exact ih _ _ (olp_l hz6 hL6) (lv_sub hl [0, 1, 2] rfl)
          · have hz6 := oif_f hz6 hc
            refine lv_iload_n (pc := 45) hx hb dX0_firstWrong_45 rfl (lv_at hl 0 rfl) ?_
            have hE := olp_r hz6 hL6
            cases hE
            exact hRet _ _ rfl dX0_firstWrong_46
  exact lp6 oFu _ _ hL6 (lv_sub hl [0, 1, 2] rfl)
def fX1_draw (p1 : Int32) (dst : Int32) : Option (Int32 × Int32) := (if p1 ≤ (0 : Int32) then (some ((0 : Int32), (Int64.toInt32 ((((Int32.toInt64 dst) * (1103515245 : Int64)) + (12345 : Int64)) &&& (2147483647 : Int64))))) else (onz p1 (some ((((Int64.toInt32 ((((Int32.toInt64 dst) * (1103515245 : Int64)) + (12345 : Int64)) &&& (2147483647 : Int64))) / (65536 : Int32)) - ((Int64.toInt32 ((((Int32.toInt64 dst) * (1103515245 : Int64)) + (12345 : Int64)) &&& (2147483647 : Int64))) / (65536 : Int32)) / p1 * p1), (Int64.toInt32 ((((Int32.toInt64 dst) * (1103515245 : Int64)) + (12345 : Int64)) &&& (2147483647 : Int64)))))))
abbrev wX1_draw (cI cZ cM cS : ClassId) (dr : Nat) (dst : Int32) : va_W := [(dr, .inr (1, [.int dst]))]
set_option maxHeartbeats 4000000 in
set_option maxRecDepth 100000 in
theorem tX1_draw (l : Launch) (D : va_G) (cI cZ cM cS : ClassId) (dr : Nat) (dst : Int32) (p1 : Int32) {r : Int32} {dst' : Int32} (hF : fX1_draw p1 dst = some (r, dst')) : zCW l yX1_draw wsX1_draw (zRm 0 0) D (zTy cI cZ cM cS) [.ref dr, .int p1] (wX1_draw cI cZ cM cS dr dst) (wX1_draw cI cZ cM cS dr dst') (some (.int r)) := by
  unfold fX1_draw at hF
  refine zCW_ofi (cc := cX1_draw) (maxL := 2) (own := RX1) (by decide) rfl rfl (Nat.le_of_ble_eq_true rfl) (fun p e s m args below meth c Q ls A E hA hK hP hD hRet hS hl => ?_)
  refine zgen (fun H locs hP hS => ?_) hP hS
  have hl : lv_has ls 2 [(0, .ref dr), (1, .int p1)] := hl
  obtain ⟨hx, hb, hml, hown, hts⟩ := id E
  have inX1 : ∀ w ∈ u_ws RX1 TX1 1, w ∈ wsX1_draw := by decide +kernel
  have fl9 := hts (.fieldLink RX1 9 "SplitClasses$Draws" "state" "I") (by decide +kernel)
  have cl15 := hts (.constantLong RX1 15 (1103515245)) (by decide +kernel)
  have cl17 := hts (.constantLong RX1 17 (12345)) (by decide +kernel)
  have cl19 := hts (.constantLong RX1 19 (2147483647)) (by decide +kernel)
  have cn21 := hts (.constant RX1 21 (65536)) (by decide +kernel)
  refine lv_aload_n (pc := 0) hx hb dX1_draw_0 rfl (lv_at hl 0 rfl) ?_
  refine lv_aload_n (pc := 1) hx hb dX1_draw_1 rfl (lv_at hl 0 rfl) ?_
  refine va_get (pc := 2) (ci := 1) (C := RX1) (T := TX1) (N := 1) hx hb hts inX1 hown hK hP 0 rfl rfl 0 (by decide) fl9 (fun _ h9 => h9) rfl dX1_draw_2 ?_
  refine lv_i2l (pc := 5) hx hb dX1_draw_5 rfl ?_
  refine lv_ldc2 (v := (1103515245 : Int64)) (pc := 6) hx hb hown cl15 dX1_draw_6 ?_
  refine lv_lmul (pc := 9) hx hb dX1_draw_9 ?_
  refine lv_ldc2 (v := (12345 : Int64)) (pc := 10) hx hb hown cl17 dX1_draw_10 ?_
  refine lv_ladd (pc := 13) hx hb dX1_draw_13 ?_
  refine lv_ldc2 (v := (2147483647 : Int64)) (pc := 14) hx hb hown cl19 dX1_draw_14 ?_
  refine lv_land (pc := 17) hx hb dX1_draw_17 ?_
  refine lv_l2i (pc := 18) hx hb dX1_draw_18 rfl ?_
  refine va_put (pc := 19) (D := D) (ci := 1) (v := .int (Int64.toInt32 ((((Int32.toInt64 dst) * (1103515245 : Int64)) + (12345 : Int64)) &&& (2147483647 : Int64)))) (ty := .int) (C := RX1) (T := TX1) (N := 1) hx hb hts inX1 tyX1 tyX1_ok nmX1 hown hK hP hD hS 0 rfl rfl 0 (by decide) fl9 (fun _ h9 => h9) rfl (by decide +kernel) rfl rfl (Nat.le_of_ble_eq_true rfl) dX1_draw_19 (fun H locs hP hD hS => ?_)
  have hP : va_P D vwCl (wX1_draw cI cZ cM cS dr (Int64.toInt32 ((((Int32.toInt64 dst) * (1103515245 : Int64)) + (12345 : Int64)) &&& (2147483647 : Int64)))) H := hP
  have hD : va_D A (wX1_draw cI cZ cM cS dr (Int64.toInt32 ((((Int32.toInt64 dst) * (1103515245 : Int64)) + (12345 : Int64)) &&& (2147483647 : Int64)))) := hD
  refine lv_iload_n (pc := 22) hx hb dX1_draw_22 rfl (lv_at hl 1 rfl) ?_
  refine lv_if_le (pc := 23) (tgt := 38) hx hb dX1_draw_23 (by decide) (fun hc => ?_) (fun hc => ?_)
  · have hF := oif_t hF hc
    refine lv_iconst (v := (0 : Int32)) (pc := 38) hx hb dX1_draw_38 (by decide) ?_
    cases hF
    exact hRet _ _ _ _ rfl dX1_draw_39 hP hD hS
  · have hF := oif_f hF hc
    refine lv_aload_n (pc := 26) hx hb dX1_draw_26 rfl (lv_at hl 0 rfl) ?_
    refine va_get (pc := 27) (ci := 1) (C := RX1) (T := TX1) (N := 1) hx hb hts inX1 hown hK hP 0 rfl rfl 0 (by decide) fl9 (fun _ h9 => h9) rfl dX1_draw_27 ?_
    refine lv_ldc (v := (65536 : Int32)) (pc := 30) hx hb hown cn21 dX1_draw_30 ?_
    refine lv_idiv (pc := 32) hx hb dX1_draw_32 (by decide) ?_
    refine lv_iload_n (pc := 33) hx hb dX1_draw_33 rfl (lv_at hl 1 rfl) ?_
    obtain ⟨hn1, hF⟩ := onz_e hF
    refine lv_irem (pc := 34) hx hb dX1_draw_34 hn1 ?_
    refine lv_goto (pc := 35) (tgt := 39) hx hb dX1_draw_35 (by decide) ?_
    cases hF
    exact hRet _ _ _ _ rfl dX1_draw_39 hP hD hS
def fX1_changeEdge (dst : Int32) (sn : Int32) (sl : Int32) (sfin : Int32) (swk : Int32) (snear : (Nat → Int32)) : Option (Int32 × (Nat → Int32)) := (ob2 (fX1_draw sn dst) (fun r_1 dst_1 => (ob2 (fX1_draw sn dst_1) (fun r_2 dst_2 => (ob1 (fX6_flipEdge r_1 r_2 sn sl sfin swk snear) (fun snear_1 => (some (dst_2, snear_1))))))))
abbrev wX1_changeEdge (cI cZ cM cS : ClassId) (dr so sca sna sla sra : Nat) (dst : Int32) (sn : Int32) (sl : Int32) (sfin : Int32) (swk : Int32) (snear : (Nat → Int32)) : va_W := [(dr, .inr (1, [.int dst])), (so, .inr (6, [.int sn, .int sl, .int sfin, .int swk, .ref sca, .ref sna, .ref sla, .ref sra])), (sna, .inl (cI, 12, .inl snear))]
set_option maxHeartbeats 4000000 in
set_option maxRecDepth 100000 in
theorem tX1_changeEdge (l : Launch) (D : va_G) (cI cZ cM cS : ClassId) (dr so sca sna sla sra : Nat) (dst : Int32) (sn : Int32) (sl : Int32) (sfin : Int32) (swk : Int32) (snear : (Nat → Int32)) {dst' : Int32} {snear' : (Nat → Int32)} (hF : fX1_changeEdge dst sn sl sfin swk snear = some (dst', snear')) : zCW l yX1_changeEdge wsX1_changeEdge (zRm 2 43) D (zTy cI cZ cM cS) [.ref dr, .ref so] (wX1_changeEdge cI cZ cM cS dr so sca sna sla sra dst sn sl sfin swk snear) (wX1_changeEdge cI cZ cM cS dr so sca sna sla sra dst' sn sl sfin swk snear') none := by
  unfold fX1_changeEdge at hF
  refine zCW_ofv (cc := cX1_changeEdge) (maxL := 4) (own := RX1) (by decide) rfl rfl (Nat.le_of_ble_eq_true rfl) (fun p e s m args below meth c Q ls A E hA hK hP hD hRet hS hl => ?_)
  refine zgen (fun H locs hP hS => ?_) hP hS
  have hl : lv_has ls 4 [(0, .ref dr), (1, .ref so)] := hl
  obtain ⟨hx, hb, hml, hown, hts⟩ := id E
  have inX6 : ∀ w ∈ u_ws RX6 TX6 8, w ∈ wsX1_changeEdge := by decide +kernel
  have fl36 := hts (.fieldLink RX1 36 "SplitClasses$State" "n" "I") (by decide +kernel)
  refine lv_aload_n (pc := 0) hx hb dX1_changeEdge_0 rfl (lv_at hl 0 rfl) ?_
  refine lv_aload_n (pc := 1) hx hb dX1_changeEdge_1 rfl (lv_at hl 1 rfl) ?_
  refine va_get (pc := 2) (ci := 6) (C := RX6) (T := TX6) (N := 8) hx hb hts inX6 hown hK hP 1 rfl rfl 0 (by decide) fl36 (fun _ h9 => h9) rfl dX1_changeEdge_2 ?_
  obtain ⟨r_1, dst_1, hC1, hF⟩ := ob2_e hF
  refine zV (pc := 5) (As := [.int sn]) (rest := []) (wr := [(so, .inr (6, [.int sn, .int sl, .int sfin, .int swk, .ref sca, .ref sna, .ref sla, .ref sra])), (sna, .inl (cI, 12, .inl snear))]) (w2 := (wX1_changeEdge cI cZ cM cS dr so sca sna sla sra dst_1 sn sl sfin swk snear)) E (tX1_draw l D cI cZ cM cS dr dst sn hC1) 1 gX1_changeEdge_X1_draw rfl rfl rfl (by decide +kernel) ⟨Nat.le_of_ble_eq_true rfl, Nat.le_of_ble_eq_true rfl⟩ hK hP hD hS hA [0] [1, 2] [2, 0, 1] (by decide) rfl rfl (by decide) (by decide) rfl (by decide) 0 1 rfl rfl rfl rfl hl.1 rfl (Nat.le_of_ble_eq_true rfl) dX1_changeEdge_5 ⟨Nat.zero_le _, Nat.zero_le _⟩ (fun H locs hP hD hS => ?_)
  refine W.eq (g2 := F0 m 8 ls [.int r_1]) rfl ?_
  refine lv_istore_n (lv' := [(2, .int r_1), (0, .ref dr), (1, .ref so)]) (pc := 8) hx hb dX1_changeEdge_8 rfl hl (by decide) rfl (fun ls hl => ?_)
  refine lv_aload_n (pc := 9) hx hb dX1_changeEdge_9 rfl (lv_at hl 1 rfl) ?_
  refine lv_aload_n (pc := 10) hx hb dX1_changeEdge_10 rfl (lv_at hl 2 rfl) ?_
  refine va_get (pc := 11) (ci := 6) (C := RX6) (T := TX6) (N := 8) hx hb hts inX6 hown hK hP 1 rfl rfl 0 (by decide) fl36 (fun _ h9 => h9) rfl dX1_changeEdge_11 ?_
  obtain ⟨r_2, dst_2, hC2, hF⟩ := ob2_e hF
  refine zV (pc := 14) (As := [.int sn]) (rest := []) (wr := [(so, .inr (6, [.int sn, .int sl, .int sfin, .int swk, .ref sca, .ref sna, .ref sla, .ref sra])), (sna, .inl (cI, 12, .inl snear))]) (w2 := (wX1_changeEdge cI cZ cM cS dr so sca sna sla sra dst_2 sn sl sfin swk snear)) E (tX1_draw l D cI cZ cM cS dr dst_1 sn hC2) 1 gX1_changeEdge_X1_draw rfl rfl rfl (by decide +kernel) ⟨Nat.le_of_ble_eq_true rfl, Nat.le_of_ble_eq_true rfl⟩ hK hP hD hS hA [0] [1, 2] [2, 0, 1] (by decide) rfl rfl (by decide) (by decide) rfl (by decide) 0 1 rfl rfl rfl rfl hl.1 rfl (Nat.le_of_ble_eq_true rfl) dX1_changeEdge_14 ⟨Nat.zero_le _, Nat.zero_le _⟩ (fun H locs hP hD hS => ?_)
  refine W.eq (g2 := F0 m 17 ls [.int r_2]) rfl ?_
  refine lv_istore_n (lv' := [(3, .int r_2), (2, .int r_1), (0, .ref dr), (1, .ref so)]) (pc := 17) hx hb dX1_changeEdge_17 rfl hl (by decide) rfl (fun ls hl => ?_)
  refine lv_aload_n (pc := 18) hx hb dX1_changeEdge_18 rfl (lv_at hl 3 rfl) ?_
  refine lv_iload_n (pc := 19) hx hb dX1_changeEdge_19 rfl (lv_at hl 1 rfl) ?_
  refine lv_iload_n (pc := 20) hx hb dX1_changeEdge_20 rfl (lv_at hl 0 rfl) ?_
  obtain ⟨snear_1, hC3, hF⟩ := ob1_e hF
  refine zV (pc := 21) (As := [.int r_1, .int r_2]) (rest := []) (wr := [(dr, .inr (1, [.int dst_2]))]) (w2 := (wX1_changeEdge cI cZ cM cS dr so sca sna sla sra dst_2 sn sl sfin swk snear_1)) E (tX6_flipEdge l D cI cZ cM cS so sca sna sla sra sn sl sfin swk snear r_1 r_2 hC3) 2 gX1_changeEdge_X6_flipEdge rfl rfl rfl (by decide +kernel) ⟨Nat.le_of_ble_eq_true rfl, Nat.le_of_ble_eq_true rfl⟩ hK hP hD hS hA [1, 2] [0] [0, 1, 2] (by decide) rfl rfl (by decide) (by decide) rfl (by decide) 0 6 rfl rfl rfl rfl hl.1 rfl (Nat.le_of_ble_eq_true rfl) dX1_changeEdge_21 ⟨Nat.zero_le _, Nat.zero_le _⟩ (fun H locs hP hD hS => ?_)
  refine W.eq (g2 := F0 m 24 ls []) rfl ?_
  cases hF
  exact hRet _ _ _ _ dX1_changeEdge_24 hP hD hS
def fX1_changeColumns (dst : Int32) (sn : Int32) (sl : Int32) (sfin : Int32) (swk : Int32) (scols : (Nat → Int32)) : Option (Int32 × (Nat → Int32)) := (ob2 (fX1_draw sn dst) (fun r_1 dst_1 => (ob2 (fX1_draw (256 : Int32) dst_1) (fun r_2 dst_2 => (ob1 (fX6_hasItem r_1 sn sl sfin swk) (fun r_3 => (if r_3 = (0 : Int32) then (some (dst_2, scols)) else (ogd r_1 12 (some (dst_2, (upd scols (Int32.toNatClampNeg r_1) r_2)))))))))))
abbrev wX1_changeColumns (cI cZ cM cS : ClassId) (dr so sca sna sla sra : Nat) (dst : Int32) (sn : Int32) (sl : Int32) (sfin : Int32) (swk : Int32) (scols : (Nat → Int32)) : va_W := [(dr, .inr (1, [.int dst])), (so, .inr (6, [.int sn, .int sl, .int sfin, .int swk, .ref sca, .ref sna, .ref sla, .ref sra])), (sca, .inl (cI, 12, .inl scols))]
set_option maxHeartbeats 4000000 in
set_option maxRecDepth 100000 in
theorem tX1_changeColumns (l : Launch) (D : va_G) (cI cZ cM cS : ClassId) (dr so sca sna sla sra : Nat) (dst : Int32) (sn : Int32) (sl : Int32) (sfin : Int32) (swk : Int32) (scols : (Nat → Int32)) {dst' : Int32} {scols' : (Nat → Int32)} (hF : fX1_changeColumns dst sn sl sfin swk scols = some (dst', scols')) : zCW l yX1_changeColumns wsX1_changeColumns (zRm 1 21) D (zTy cI cZ cM cS) [.ref dr, .ref so] (wX1_changeColumns cI cZ cM cS dr so sca sna sla sra dst sn sl sfin swk scols) (wX1_changeColumns cI cZ cM cS dr so sca sna sla sra dst' sn sl sfin swk scols') none := by
  unfold fX1_changeColumns at hF
  refine zCW_ofv (cc := cX1_changeColumns) (maxL := 4) (own := RX1) (by decide) rfl rfl (Nat.le_of_ble_eq_true rfl) (fun p e s m args below meth c Q ls A E hA hK hP hD hRet hS hl => ?_)
  refine zgen (fun H locs hP hS => ?_) hP hS
  have hl : lv_has ls 4 [(0, .ref dr), (1, .ref so)] := hl
  obtain ⟨hx, hb, hml, hown, hts⟩ := id E
  have inX6 : ∀ w ∈ u_ws RX6 TX6 8, w ∈ wsX1_changeColumns := by decide +kernel
  have fl36 := hts (.fieldLink RX1 36 "SplitClasses$State" "n" "I") (by decide +kernel)
  have fl52 := hts (.fieldLink RX1 52 "SplitClasses$State" "columnSets" "[I") (by decide +kernel)
  refine lv_aload_n (pc := 0) hx hb dX1_changeColumns_0 rfl (lv_at hl 0 rfl) ?_
  refine lv_aload_n (pc := 1) hx hb dX1_changeColumns_1 rfl (lv_at hl 1 rfl) ?_
  refine va_get (pc := 2) (ci := 6) (C := RX6) (T := TX6) (N := 8) hx hb hts inX6 hown hK hP 1 rfl rfl 0 (by decide) fl36 (fun _ h9 => h9) rfl dX1_changeColumns_2 ?_
  obtain ⟨r_1, dst_1, hC1, hF⟩ := ob2_e hF
  refine zV (pc := 5) (As := [.int sn]) (rest := []) (wr := [(so, .inr (6, [.int sn, .int sl, .int sfin, .int swk, .ref sca, .ref sna, .ref sla, .ref sra])), (sca, .inl (cI, 12, .inl scols))]) (w2 := (wX1_changeColumns cI cZ cM cS dr so sca sna sla sra dst_1 sn sl sfin swk scols)) E (tX1_draw l D cI cZ cM cS dr dst sn hC1) 1 gX1_changeColumns_X1_draw rfl rfl rfl (by decide +kernel) ⟨Nat.le_of_ble_eq_true rfl, Nat.le_of_ble_eq_true rfl⟩ hK hP hD hS hA [0] [1, 2] [2, 0, 1] (by decide) rfl rfl (by decide) (by decide) rfl (by decide) 0 1 rfl rfl rfl rfl hl.1 rfl (Nat.le_of_ble_eq_true rfl) dX1_changeColumns_5 ⟨Nat.zero_le _, Nat.zero_le _⟩ (fun H locs hP hD hS => ?_)
  refine W.eq (g2 := F0 m 8 ls [.int r_1]) rfl ?_
  refine lv_istore_n (lv' := [(2, .int r_1), (0, .ref dr), (1, .ref so)]) (pc := 8) hx hb dX1_changeColumns_8 rfl hl (by decide) rfl (fun ls hl => ?_)
  refine lv_aload_n (pc := 9) hx hb dX1_changeColumns_9 rfl (lv_at hl 1 rfl) ?_
  refine lv_sipush (v := (256 : Int32)) (pc := 10) hx hb dX1_changeColumns_10 (by decide) ?_
  obtain ⟨r_2, dst_2, hC2, hF⟩ := ob2_e hF
  refine zV (pc := 13) (As := [.int (256 : Int32)]) (rest := []) (wr := [(so, .inr (6, [.int sn, .int sl, .int sfin, .int swk, .ref sca, .ref sna, .ref sla, .ref sra])), (sca, .inl (cI, 12, .inl scols))]) (w2 := (wX1_changeColumns cI cZ cM cS dr so sca sna sla sra dst_2 sn sl sfin swk scols)) E (tX1_draw l D cI cZ cM cS dr dst_1 (256 : Int32) hC2) 1 gX1_changeColumns_X1_draw rfl rfl rfl (by decide +kernel) ⟨Nat.le_of_ble_eq_true rfl, Nat.le_of_ble_eq_true rfl⟩ hK hP hD hS hA [0] [1, 2] [2, 0, 1] (by decide) rfl rfl (by decide) (by decide) rfl (by decide) 0 1 rfl rfl rfl rfl hl.1 rfl (Nat.le_of_ble_eq_true rfl) dX1_changeColumns_13 ⟨Nat.zero_le _, Nat.zero_le _⟩ (fun H locs hP hD hS => ?_)
  refine W.eq (g2 := F0 m 16 ls [.int r_2]) rfl ?_
  refine lv_istore_n (lv' := [(3, .int r_2), (2, .int r_1), (0, .ref dr), (1, .ref so)]) (pc := 16) hx hb dX1_changeColumns_16 rfl hl (by decide) rfl (fun ls hl => ?_)
  refine lv_aload_n (pc := 17) hx hb dX1_changeColumns_17 rfl (lv_at hl 3 rfl) ?_
  refine lv_iload_n (pc := 18) hx hb dX1_changeColumns_18 rfl (lv_at hl 1 rfl) ?_
  obtain ⟨r_3, hC3, hF⟩ := ob1_e hF
  refine zVr (pc := 19) (As := [.int r_1]) (rest := []) E (tX6_hasItem l D cI cZ cM cS so sca sna sla sra sn sl sfin swk r_1 hC3) 1 gX1_changeColumns_X6_hasItem rfl rfl rfl (by decide +kernel) ⟨Nat.le_of_ble_eq_true rfl, Nat.le_of_ble_eq_true rfl⟩ hK hP [1] rfl 0 6 rfl rfl rfl rfl hl.1 rfl (Nat.le_of_ble_eq_true rfl) dX1_changeColumns_19 ⟨Nat.zero_le _, Nat.zero_le _⟩ ?_
  refine lv_if_eq (pc := 22) (tgt := 32) hx hb dX1_changeColumns_22 (by decide) (fun hc => ?_) (fun hc => ?_)
  · have hF := oif_t hF hc
    cases hF
    exact hRet _ _ _ _ dX1_changeColumns_32 hP hD hS
  · have hF := oif_f hF hc
    refine lv_aload_n (pc := 25) hx hb dX1_changeColumns_25 rfl (lv_at hl 3 rfl) ?_
    refine va_get (pc := 26) (ci := 6) (C := RX6) (T := TX6) (N := 8) hx hb hts inX6 hown hK hP 1 rfl rfl 4 (by decide) fl52 (fun _ h9 => h9) rfl dX1_changeColumns_26 ?_
    refine lv_iload_n (pc := 29) hx hb dX1_changeColumns_29 rfl (lv_at hl 1 rfl) ?_
    refine lv_iload_n (pc := 30) hx hb dX1_changeColumns_30 rfl (lv_at hl 0 rfl) ?_
    obtain ⟨hg4, hF⟩ := ogd_e hF
    refine va_iast (pc := 31) hx hb hK hP hD hS 2 0 rfl rfl hg4 dX1_changeColumns_31 (fun H locs hP hD hS => ?_)
    have hP : va_P D vwCl (wX1_changeColumns cI cZ cM cS dr so sca sna sla sra dst_2 sn sl sfin swk (upd scols (Int32.toNatClampNeg r_1) r_2)) H := hP
    have hD : va_D A (wX1_changeColumns cI cZ cM cS dr so sca sna sla sra dst_2 sn sl sfin swk (upd scols (Int32.toNatClampNeg r_1) r_2)) := hD
    cases hF
    exact hRet _ _ _ _ dX1_changeColumns_32 hP hD hS
def fX1_changeMachine (dst : Int32) (sn : Int32) (sl : Int32) (sfin : Int32) (swk : Int32) (slds : (Nat → Int32)) : Option (Int32 × (Nat → Int32)) := (ob2 (fX1_draw sn dst) (fun r_1 dst_1 => (ob2 (fX1_draw sl dst_1) (fun r_2 dst_2 => (ob2 (fX1_draw sn dst_2) (fun r_3 dst_3 => (ob1 (fX6_lead r_1 r_2 r_3 sn sl sfin swk slds) (fun slds_1 => (some (dst_3, slds_1))))))))))
abbrev wX1_changeMachine (cI cZ cM cS : ClassId) (dr so sca sna sla sra : Nat) (dst : Int32) (sn : Int32) (sl : Int32) (sfin : Int32) (swk : Int32) (slds : (Nat → Int32)) : va_W := [(dr, .inr (1, [.int dst])), (so, .inr (6, [.int sn, .int sl, .int sfin, .int swk, .ref sca, .ref sna, .ref sla, .ref sra])), (sla, .inl (cI, 36, .inl slds))]
set_option maxHeartbeats 4000000 in
set_option maxRecDepth 100000 in
theorem tX1_changeMachine (l : Launch) (D : va_G) (cI cZ cM cS : ClassId) (dr so sca sna sla sra : Nat) (dst : Int32) (sn : Int32) (sl : Int32) (sfin : Int32) (swk : Int32) (slds : (Nat → Int32)) {dst' : Int32} {slds' : (Nat → Int32)} (hF : fX1_changeMachine dst sn sl sfin swk slds = some (dst', slds')) : zCW l yX1_changeMachine wsX1_changeMachine (zRm 2 44) D (zTy cI cZ cM cS) [.ref dr, .ref so] (wX1_changeMachine cI cZ cM cS dr so sca sna sla sra dst sn sl sfin swk slds) (wX1_changeMachine cI cZ cM cS dr so sca sna sla sra dst' sn sl sfin swk slds') none := by
  unfold fX1_changeMachine at hF
  refine zCW_ofv (cc := cX1_changeMachine) (maxL := 5) (own := RX1) (by decide) rfl rfl (Nat.le_of_ble_eq_true rfl) (fun p e s m args below meth c Q ls A E hA hK hP hD hRet hS hl => ?_)
  refine zgen (fun H locs hP hS => ?_) hP hS
  have hl : lv_has ls 5 [(0, .ref dr), (1, .ref so)] := hl
  obtain ⟨hx, hb, hml, hown, hts⟩ := id E
  have inX6 : ∀ w ∈ u_ws RX6 TX6 8, w ∈ wsX1_changeMachine := by decide +kernel
  have fl36 := hts (.fieldLink RX1 36 "SplitClasses$State" "n" "I") (by decide +kernel)
  have fl56 := hts (.fieldLink RX1 56 "SplitClasses$State" "letterCount" "I") (by decide +kernel)
  refine lv_aload_n (pc := 0) hx hb dX1_changeMachine_0 rfl (lv_at hl 0 rfl) ?_
  refine lv_aload_n (pc := 1) hx hb dX1_changeMachine_1 rfl (lv_at hl 1 rfl) ?_
  refine va_get (pc := 2) (ci := 6) (C := RX6) (T := TX6) (N := 8) hx hb hts inX6 hown hK hP 1 rfl rfl 0 (by decide) fl36 (fun _ h9 => h9) rfl dX1_changeMachine_2 ?_
  obtain ⟨r_1, dst_1, hC1, hF⟩ := ob2_e hF
  refine zV (pc := 5) (As := [.int sn]) (rest := []) (wr := [(so, .inr (6, [.int sn, .int sl, .int sfin, .int swk, .ref sca, .ref sna, .ref sla, .ref sra])), (sla, .inl (cI, 36, .inl slds))]) (w2 := (wX1_changeMachine cI cZ cM cS dr so sca sna sla sra dst_1 sn sl sfin swk slds)) E (tX1_draw l D cI cZ cM cS dr dst sn hC1) 1 gX1_changeMachine_X1_draw rfl rfl rfl (by decide +kernel) ⟨Nat.le_of_ble_eq_true rfl, Nat.le_of_ble_eq_true rfl⟩ hK hP hD hS hA [0] [1, 2] [2, 0, 1] (by decide) rfl rfl (by decide) (by decide) rfl (by decide) 0 1 rfl rfl rfl rfl hl.1 rfl (Nat.le_of_ble_eq_true rfl) dX1_changeMachine_5 ⟨Nat.zero_le _, Nat.zero_le _⟩ (fun H locs hP hD hS => ?_)
  refine W.eq (g2 := F0 m 8 ls [.int r_1]) rfl ?_
  refine lv_istore_n (lv' := [(2, .int r_1), (0, .ref dr), (1, .ref so)]) (pc := 8) hx hb dX1_changeMachine_8 rfl hl (by decide) rfl (fun ls hl => ?_)
  refine lv_aload_n (pc := 9) hx hb dX1_changeMachine_9 rfl (lv_at hl 1 rfl) ?_
  refine lv_aload_n (pc := 10) hx hb dX1_changeMachine_10 rfl (lv_at hl 2 rfl) ?_
  refine va_get (pc := 11) (ci := 6) (C := RX6) (T := TX6) (N := 8) hx hb hts inX6 hown hK hP 1 rfl rfl 1 (by decide) fl56 (fun _ h9 => h9) rfl dX1_changeMachine_11 ?_
  obtain ⟨r_2, dst_2, hC2, hF⟩ := ob2_e hF
  refine zV (pc := 14) (As := [.int sl]) (rest := []) (wr := [(so, .inr (6, [.int sn, .int sl, .int sfin, .int swk, .ref sca, .ref sna, .ref sla, .ref sra])), (sla, .inl (cI, 36, .inl slds))]) (w2 := (wX1_changeMachine cI cZ cM cS dr so sca sna sla sra dst_2 sn sl sfin swk slds)) E (tX1_draw l D cI cZ cM cS dr dst_1 sl hC2) 1 gX1_changeMachine_X1_draw rfl rfl rfl (by decide +kernel) ⟨Nat.le_of_ble_eq_true rfl, Nat.le_of_ble_eq_true rfl⟩ hK hP hD hS hA [0] [1, 2] [2, 0, 1] (by decide) rfl rfl (by decide) (by decide) rfl (by decide) 0 1 rfl rfl rfl rfl hl.1 rfl (Nat.le_of_ble_eq_true rfl) dX1_changeMachine_14 ⟨Nat.zero_le _, Nat.zero_le _⟩ (fun H locs hP hD hS => ?_)
  refine W.eq (g2 := F0 m 17 ls [.int r_2]) rfl ?_
  refine lv_istore_n (lv' := [(3, .int r_2), (2, .int r_1), (0, .ref dr), (1, .ref so)]) (pc := 17) hx hb dX1_changeMachine_17 rfl hl (by decide) rfl (fun ls hl => ?_)
  refine lv_aload_n (pc := 18) hx hb dX1_changeMachine_18 rfl (lv_at hl 2 rfl) ?_
  refine lv_aload_n (pc := 19) hx hb dX1_changeMachine_19 rfl (lv_at hl 3 rfl) ?_
  refine va_get (pc := 20) (ci := 6) (C := RX6) (T := TX6) (N := 8) hx hb hts inX6 hown hK hP 1 rfl rfl 0 (by decide) fl36 (fun _ h9 => h9) rfl dX1_changeMachine_20 ?_
  obtain ⟨r_3, dst_3, hC3, hF⟩ := ob2_e hF
  refine zV (pc := 23) (As := [.int sn]) (rest := []) (wr := [(so, .inr (6, [.int sn, .int sl, .int sfin, .int swk, .ref sca, .ref sna, .ref sla, .ref sra])), (sla, .inl (cI, 36, .inl slds))]) (w2 := (wX1_changeMachine cI cZ cM cS dr so sca sna sla sra dst_3 sn sl sfin swk slds)) E (tX1_draw l D cI cZ cM cS dr dst_2 sn hC3) 1 gX1_changeMachine_X1_draw rfl rfl rfl (by decide +kernel) ⟨Nat.le_of_ble_eq_true rfl, Nat.le_of_ble_eq_true rfl⟩ hK hP hD hS hA [0] [1, 2] [2, 0, 1] (by decide) rfl rfl (by decide) (by decide) rfl (by decide) 0 1 rfl rfl rfl rfl hl.1 rfl (Nat.le_of_ble_eq_true rfl) dX1_changeMachine_23 ⟨Nat.zero_le _, Nat.zero_le _⟩ (fun H locs hP hD hS => ?_)
  refine W.eq (g2 := F0 m 26 ls [.int r_3]) rfl ?_
  refine lv_istore (lv' := [(4, .int r_3), (3, .int r_2), (2, .int r_1), (0, .ref dr), (1, .ref so)]) (pc := 26) hx hb dX1_changeMachine_26 hl (by decide) rfl (fun ls hl => ?_)
  refine lv_aload_n (pc := 28) hx hb dX1_changeMachine_28 rfl (lv_at hl 4 rfl) ?_
  refine lv_iload_n (pc := 29) hx hb dX1_changeMachine_29 rfl (lv_at hl 2 rfl) ?_
  refine lv_iload_n (pc := 30) hx hb dX1_changeMachine_30 rfl (lv_at hl 1 rfl) ?_
  refine lv_iload (pc := 31) hx hb dX1_changeMachine_31 (lv_at hl 0 rfl) ?_
  obtain ⟨slds_1, hC4, hF⟩ := ob1_e hF
  refine zV (pc := 33) (As := [.int r_1, .int r_2, .int r_3]) (rest := []) (wr := [(dr, .inr (1, [.int dst_3]))]) (w2 := (wX1_changeMachine cI cZ cM cS dr so sca sna sla sra dst_3 sn sl sfin swk slds_1)) E (tX6_lead l D cI cZ cM cS so sca sna sla sra sn sl sfin swk slds r_1 r_2 r_3 hC4) 3 gX1_changeMachine_X6_lead rfl rfl rfl (by decide +kernel) ⟨Nat.le_of_ble_eq_true rfl, Nat.le_of_ble_eq_true rfl⟩ hK hP hD hS hA [1, 2] [0] [0, 1, 2] (by decide) rfl rfl (by decide) (by decide) rfl (by decide) 0 6 rfl rfl rfl rfl hl.1 rfl (Nat.le_of_ble_eq_true rfl) dX1_changeMachine_33 ⟨Nat.zero_le _, Nat.zero_le _⟩ (fun H locs hP hD hS => ?_)
  refine W.eq (g2 := F0 m 36 ls []) rfl ?_
  cases hF
  exact hRet _ _ _ _ dX1_changeMachine_36 hP hD hS
def fX1_change (dst : Int32) (sn : Int32) (sl : Int32) (sfin : Int32) (swk : Int32) (scols : (Nat → Int32)) (snear : (Nat → Int32)) (slds : (Nat → Int32)) : Option (Int32 × Int32 × (Nat → Int32) × (Nat → Int32) × (Nat → Int32)) := (ob2 (fX1_draw (4 : Int32) dst) (fun r_1 dst_1 => (if r_1 = (0 : Int32) then (ob2 (fX1_changeEdge dst_1 sn sl sfin swk snear) (fun dst_2 snear_1 => (some (dst_2, sfin, scols, snear_1, slds)))) else (if r_1 = (1 : Int32) then (ob2 (fX1_changeColumns dst_1 sn sl sfin swk scols) (fun dst_3 scols_1 => (some (dst_3, sfin, scols_1, snear, slds)))) else (if r_1 = (2 : Int32) then (ob2 (fX1_changeMachine dst_1 sn sl sfin swk slds) (fun dst_4 slds_1 => (some (dst_4, sfin, scols, snear, slds_1)))) else (ob2 (fX1_draw ((1 : Int32) <<< (sn &&& 31)) dst_1) (fun r_2 dst_5 => (some (dst_5, r_2, scols, snear, slds)))))))))
abbrev wX1_change (cI cZ cM cS : ClassId) (dr so sca sna sla sra : Nat) (dst : Int32) (sn : Int32) (sl : Int32) (sfin : Int32) (swk : Int32) (scols : (Nat → Int32)) (snear : (Nat → Int32)) (slds : (Nat → Int32)) : va_W := [(dr, .inr (1, [.int dst])), (so, .inr (6, [.int sn, .int sl, .int sfin, .int swk, .ref sca, .ref sna, .ref sla, .ref sra])), (sca, .inl (cI, 12, .inl scols)), (sna, .inl (cI, 12, .inl snear)), (sla, .inl (cI, 36, .inl slds))]
set_option maxHeartbeats 4000000 in
set_option maxRecDepth 100000 in
theorem tX1_change (l : Launch) (D : va_G) (cI cZ cM cS : ClassId) (dr so sca sna sla sra : Nat) (dst : Int32) (sn : Int32) (sl : Int32) (sfin : Int32) (swk : Int32) (scols : (Nat → Int32)) (snear : (Nat → Int32)) (slds : (Nat → Int32)) {dst' : Int32} {sfin' : Int32} {scols' : (Nat → Int32)} {snear' : (Nat → Int32)} {slds' : (Nat → Int32)} (hF : fX1_change dst sn sl sfin swk scols snear slds = some (dst', sfin', scols', snear', slds')) : zCW l yX1_change wsX1_change (zRm 3 68) D (zTy cI cZ cM cS) [.ref dr, .ref so] (wX1_change cI cZ cM cS dr so sca sna sla sra dst sn sl sfin swk scols snear slds) (wX1_change cI cZ cM cS dr so sca sna sla sra dst' sn sl sfin' swk scols' snear' slds') none := by
  unfold fX1_change at hF
  refine zCW_ofv (cc := cX1_change) (maxL := 2) (own := RX1) (by decide) rfl rfl (Nat.le_of_ble_eq_true rfl) (fun p e s m args below meth c Q ls A E hA hK hP hD hRet hS hl => ?_)
  refine zgen (fun H locs hP hS => ?_) hP hS
  have hl : lv_has ls 2 [(0, .ref dr), (1, .ref so)] := hl
  obtain ⟨hx, hb, hml, hown, hts⟩ := id E
  have inX6 : ∀ w ∈ u_ws RX6 TX6 8, w ∈ wsX1_change := by decide +kernel
  have fl36 := hts (.fieldLink RX1 36 "SplitClasses$State" "n" "I") (by decide +kernel)
  have fl41 := hts (.fieldLink RX1 41 "SplitClasses$State" "finalSet" "I") (by decide +kernel)
  refine lv_aload_n (pc := 0) hx hb dX1_change_0 rfl (lv_at hl 0 rfl) ?_
  refine lv_iconst (v := (4 : Int32)) (pc := 1) hx hb dX1_change_1 (by decide) ?_
  obtain ⟨r_1, dst_1, hC1, hF⟩ := ob2_e hF
  refine zV (pc := 2) (As := [.int (4 : Int32)]) (rest := []) (wr := [(so, .inr (6, [.int sn, .int sl, .int sfin, .int swk, .ref sca, .ref sna, .ref sla, .ref sra])), (sca, .inl (cI, 12, .inl scols)), (sna, .inl (cI, 12, .inl snear)), (sla, .inl (cI, 36, .inl slds))]) (w2 := (wX1_change cI cZ cM cS dr so sca sna sla sra dst_1 sn sl sfin swk scols snear slds)) E (tX1_draw l D cI cZ cM cS dr dst (4 : Int32) hC1) 1 gX1_change_X1_draw rfl rfl rfl (by decide +kernel) ⟨Nat.le_of_ble_eq_true rfl, Nat.le_of_ble_eq_true rfl⟩ hK hP hD hS hA [0] [1, 2, 3, 4] [4, 0, 1, 2, 3] (by decide) rfl rfl (by decide) (by decide) rfl (by decide) 0 1 rfl rfl rfl rfl hl.1 rfl (Nat.le_of_ble_eq_true rfl) dX1_change_2 ⟨Nat.zero_le _, Nat.zero_le _⟩ (fun H locs hP hD hS => ?_)
  refine W.eq (g2 := F0 m 5 ls [.int r_1]) rfl ?_
  refine lv_topi (fun xs exs => ?_)
  by_cases hk10500 : r_1 = (0 : Int32)
  · have hF := oif_t hF hk10500
    rw [hk10500] at exs
    rw [exs]
    refine lv_tableIn (pc := 5) (tgt := 32) hx hb dX1_change_5 (by decide) (by decide) rfl (by decide) ?_
    refine lv_aload_n (pc := 32) hx hb dX1_change_32 rfl (lv_at hl 0 rfl) ?_
    refine lv_aload_n (pc := 33) hx hb dX1_change_33 rfl (lv_at hl 1 rfl) ?_
    obtain ⟨dst_2, snear_1, hC2, hF⟩ := ob2_e hF
    refine zV (pc := 34) (As := [.ref so]) (rest := []) (wr := [(sca, .inl (cI, 12, .inl scols)), (sla, .inl (cI, 36, .inl slds))]) (w2 := (wX1_change cI cZ cM cS dr so sca sna sla sra dst_2 sn sl sfin swk scols snear_1 slds)) E (tX1_changeEdge l D cI cZ cM cS dr so sca sna sla sra dst_1 sn sl sfin swk snear hC2) 1 gX1_change_X1_changeEdge rfl rfl rfl (by decide +kernel) ⟨Nat.le_of_ble_eq_true rfl, Nat.le_of_ble_eq_true rfl⟩ hK hP hD hS hA [0, 1, 3] [2, 4] [2, 3, 0, 4, 1] (by decide) rfl rfl (by decide) (by decide) rfl (by decide) 0 1 rfl rfl rfl rfl hl.1 rfl (Nat.le_of_ble_eq_true rfl) dX1_change_34 ⟨Nat.zero_le _, Nat.zero_le _⟩ (fun H locs hP hD hS => ?_)
    refine W.eq (g2 := F0 m 37 ls []) rfl ?_
    refine lv_goto (pc := 37) (tgt := 70) hx hb dX1_change_37 (by decide) ?_
    cases hF
    exact hRet _ _ _ _ dX1_change_70 hP hD hS
  have hF := oif_f hF hk10500
  by_cases hk10501 : r_1 = (1 : Int32)
  · have hF := oif_t hF hk10501
    rw [hk10501] at exs
    rw [exs]
    refine lv_tableIn (pc := 5) (tgt := 40) hx hb dX1_change_5 (by decide) (by decide) rfl (by decide) ?_
    refine lv_aload_n (pc := 40) hx hb dX1_change_40 rfl (lv_at hl 0 rfl) ?_
    refine lv_aload_n (pc := 41) hx hb dX1_change_41 rfl (lv_at hl 1 rfl) ?_
    obtain ⟨dst_3, scols_1, hC3, hF⟩ := ob2_e hF
    refine zV (pc := 42) (As := [.ref so]) (rest := []) (wr := [(sna, .inl (cI, 12, .inl snear)), (sla, .inl (cI, 36, .inl slds))]) (w2 := (wX1_change cI cZ cM cS dr so sca sna sla sra dst_3 sn sl sfin swk scols_1 snear slds)) E (tX1_changeColumns l D cI cZ cM cS dr so sca sna sla sra dst_1 sn sl sfin swk scols hC3) 1 gX1_change_X1_changeColumns rfl rfl rfl (by decide +kernel) ⟨Nat.le_of_ble_eq_true rfl, Nat.le_of_ble_eq_true rfl⟩ hK hP hD hS hA [0, 1, 2] [3, 4] [2, 3, 4, 0, 1] (by decide) rfl rfl (by decide) (by decide) rfl (by decide) 0 1 rfl rfl rfl rfl hl.1 rfl (Nat.le_of_ble_eq_true rfl) dX1_change_42 ⟨Nat.zero_le _, Nat.zero_le _⟩ (fun H locs hP hD hS => ?_)
    refine W.eq (g2 := F0 m 45 ls []) rfl ?_
    refine lv_goto (pc := 45) (tgt := 70) hx hb dX1_change_45 (by decide) ?_
    cases hF
    exact hRet _ _ _ _ dX1_change_70 hP hD hS
  have hF := oif_f hF hk10501
  by_cases hk10502 : r_1 = (2 : Int32)
  · have hF := oif_t hF hk10502
    rw [hk10502] at exs
    rw [exs]
    refine lv_tableIn (pc := 5) (tgt := 48) hx hb dX1_change_5 (by decide) (by decide) rfl (by decide) ?_
    refine lv_aload_n (pc := 48) hx hb dX1_change_48 rfl (lv_at hl 0 rfl) ?_
    refine lv_aload_n (pc := 49) hx hb dX1_change_49 rfl (lv_at hl 1 rfl) ?_
    obtain ⟨dst_4, slds_1, hC4, hF⟩ := ob2_e hF
    refine zV (pc := 50) (As := [.ref so]) (rest := []) (wr := [(sca, .inl (cI, 12, .inl scols)), (sna, .inl (cI, 12, .inl snear))]) (w2 := (wX1_change cI cZ cM cS dr so sca sna sla sra dst_4 sn sl sfin swk scols snear slds_1)) E (tX1_changeMachine l D cI cZ cM cS dr so sca sna sla sra dst_1 sn sl sfin swk slds hC4) 1 gX1_change_X1_changeMachine rfl rfl rfl (by decide +kernel) ⟨Nat.le_of_ble_eq_true rfl, Nat.le_of_ble_eq_true rfl⟩ hK hP hD hS hA [0, 1, 4] [2, 3] [2, 3, 0, 1, 4] (by decide) rfl rfl (by decide) (by decide) rfl (by decide) 0 1 rfl rfl rfl rfl hl.1 rfl (Nat.le_of_ble_eq_true rfl) dX1_change_50 ⟨Nat.zero_le _, Nat.zero_le _⟩ (fun H locs hP hD hS => ?_)
    refine W.eq (g2 := F0 m 53 ls []) rfl ?_
    refine lv_goto (pc := 53) (tgt := 70) hx hb dX1_change_53 (by decide) ?_
    cases hF
    exact hRet _ _ _ _ dX1_change_70 hP hD hS
  have hF := oif_f hF hk10502
  rw [exs]
  refine lv_tableOut (pc := 5) (tgt := 56) hx hb dX1_change_5 (ztabO 3 [0, 1, 2] (by decide) (by decide) (zallC hk10500 (zallC hk10501 (zallC hk10502 zallN)))) (by decide) ?_
  refine lv_aload_n (pc := 56) hx hb dX1_change_56 rfl (lv_at hl 1 rfl) ?_
  refine lv_aload_n (pc := 57) hx hb dX1_change_57 rfl (lv_at hl 0 rfl) ?_
  refine lv_iconst (v := (1 : Int32)) (pc := 58) hx hb dX1_change_58 (by decide) ?_
  refine lv_aload_n (pc := 59) hx hb dX1_change_59 rfl (lv_at hl 1 rfl) ?_
  refine va_get (pc := 60) (ci := 6) (C := RX6) (T := TX6) (N := 8) hx hb hts inX6 hown hK hP 1 rfl rfl 0 (by decide) fl36 (fun _ h9 => h9) rfl dX1_change_60 ?_
  refine lv_ishl (pc := 63) hx hb dX1_change_63 ?_
  obtain ⟨r_2, dst_5, hC5, hF⟩ := ob2_e hF
  refine zV (pc := 64) (As := [.int ((1 : Int32) <<< (sn &&& 31))]) (rest := [.ref so]) (wr := [(so, .inr (6, [.int sn, .int sl, .int sfin, .int swk, .ref sca, .ref sna, .ref sla, .ref sra])), (sca, .inl (cI, 12, .inl scols)), (sna, .inl (cI, 12, .inl snear)), (sla, .inl (cI, 36, .inl slds))]) (w2 := (wX1_change cI cZ cM cS dr so sca sna sla sra dst_5 sn sl sfin swk scols snear slds)) E (tX1_draw l D cI cZ cM cS dr dst_1 ((1 : Int32) <<< (sn &&& 31)) hC5) 1 gX1_change_X1_draw rfl rfl rfl (by decide +kernel) ⟨Nat.le_of_ble_eq_true rfl, Nat.le_of_ble_eq_true rfl⟩ hK hP hD hS hA [0] [1, 2, 3, 4] [4, 0, 1, 2, 3] (by decide) rfl rfl (by decide) (by decide) rfl (by decide) 0 1 rfl rfl rfl rfl hl.1 rfl (Nat.le_of_ble_eq_true rfl) dX1_change_64 ⟨Nat.zero_le _, Nat.zero_le _⟩ (fun H locs hP hD hS => ?_)
  refine W.eq (g2 := F0 m 67 ls [.int r_2, .ref so]) rfl ?_
  refine va_put (pc := 67) (D := D) (ci := 6) (v := .int r_2) (ty := .int) (C := RX6) (T := TX6) (N := 8) hx hb hts inX6 tyX6 tyX6_ok nmX6 hown hK hP hD hS 1 rfl rfl 2 (by decide) fl41 (fun _ h9 => h9) rfl (by decide +kernel) rfl rfl (Nat.le_of_ble_eq_true rfl) dX1_change_67 (fun H locs hP hD hS => ?_)
  have hP : va_P D vwCl (wX1_change cI cZ cM cS dr so sca sna sla sra dst_5 sn sl r_2 swk scols snear slds) H := hP
  have hD : va_D A (wX1_change cI cZ cM cS dr so sca sna sla sra dst_5 sn sl r_2 swk scols snear slds) := hD
  cases hF
  exact hRet _ _ _ _ dX1_change_70 hP hD hS
