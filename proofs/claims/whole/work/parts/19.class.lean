def fX8_items (p1 : Int32) (hnx : Int32) (hct : Int32) (sn : Int32) (sl : Int32) (sfin : Int32) (swk : Int32) (scols : (Nat → Int32)) (snear : (Nat → Int32)) (slds : (Nat → Int32)) (qc : Int32) (qf : (Nat → Int32)) (rg : (Nat → zSV)) : Option (Int32 × Int32 × Int32 × Int32 × Int32 × Int32 × Int32 × (Nat → Int32) × (Nat → Int32) × (Nat → Int32) × Int32 × (Nat → Int32) × (Nat → zSV)) := (if p1 < (1 : Int32) then (some ((-1000000002 : Int32), hnx, hct, sn, sl, sfin, swk, scols, snear, slds, qc, qf, rg)) else (if p1 ≤ (12 : Int32) then (ob3 (fX2_remember hnx hct sn sl sfin swk scols snear slds qc qf rg) (fun hnx_1 hct_1 rg_1 => (ob9 (fX6_startWith p1 sn sl sfin swk scols snear slds qc qf) (fun sn_1 sl_1 sfin_1 swk_1 scols_1 snear_1 slds_1 qc_1 qf_1 => (some (sn, hnx_1, hct_1, sn_1, sl_1, sfin_1, swk_1, scols_1, snear_1, slds_1, qc_1, qf_1, rg_1)))))) else (some ((-1000000002 : Int32), hnx, hct, sn, sl, sfin, swk, scols, snear, slds, qc, qf, rg))))
abbrev wX8_items (cI cZ cM cS : ClassId) (xo so ho ko ia fo wo zo dr rr sca sna sla sra qs : Nat) (ra : Nat → zSA) (hnx : Int32) (hct : Int32) (sn : Int32) (sl : Int32) (sfin : Int32) (swk : Int32) (scols : (Nat → Int32)) (snear : (Nat → Int32)) (slds : (Nat → Int32)) (qc : Int32) (qf : (Nat → Int32)) (rg : (Nat → zSV)) : va_W := [(xo, .inr (8, [.ref so, .ref ho, .ref ko, .ref ia, .ref fo, .ref wo, .ref zo, .ref dr])), (ho, .inr (2, [.ref rr, .int hnx, .int hct])), (rr, .inl (cS, 16, .inr (.inr (.inr (.inr (fun i => some (ra i).1)))))), (so, .inr (6, [.int sn, .int sl, .int sfin, .int swk, .ref sca, .ref sna, .ref sla, .ref sra])), (sca, .inl (cI, 12, .inl scols)), (sna, .inl (cI, 12, .inl snear)), (sla, .inl (cI, 36, .inl slds)), (sra, .inr (5, [.ref qs, .int qc])), (qs, .inl (cI, 12, .inl qf))] ++ (zRing cI ra rg)
set_option maxHeartbeats 4000000 in
set_option maxRecDepth 100000 in
theorem tX8_items (l : Launch) (D : va_G) (cI cZ cM cS : ClassId) (xo so ho ko ia fo wo zo dr rr sca sna sla sra qs : Nat) (ra : Nat → zSA) (hnx : Int32) (hct : Int32) (sn : Int32) (sl : Int32) (sfin : Int32) (swk : Int32) (scols : (Nat → Int32)) (snear : (Nat → Int32)) (slds : (Nat → Int32)) (qc : Int32) (qf : (Nat → Int32)) (rg : (Nat → zSV)) (p1 : Int32) {r : Int32} {hnx' : Int32} {hct' : Int32} {sn' : Int32} {sl' : Int32} {sfin' : Int32} {swk' : Int32} {scols' : (Nat → Int32)} {snear' : (Nat → Int32)} {slds' : (Nat → Int32)} {qc' : Int32} {qf' : (Nat → Int32)} {rg' : (Nat → zSV)} (hF : fX8_items p1 hnx hct sn sl sfin swk scols snear slds qc qf rg = some (r, hnx', hct', sn', sl', sfin', swk', scols', snear', slds', qc', qf', rg')) : zCW l yX8_items wsX8_items (zRm 4 111) D (zTy cI cZ cM cS) [.ref xo, .int p1] (wX8_items cI cZ cM cS xo so ho ko ia fo wo zo dr rr sca sna sla sra qs ra hnx hct sn sl sfin swk scols snear slds qc qf rg) (wX8_items cI cZ cM cS xo so ho ko ia fo wo zo dr rr sca sna sla sra qs ra hnx' hct' sn' sl' sfin' swk' scols' snear' slds' qc' qf' rg') (some (.int r)) := by
  unfold fX8_items at hF
  refine zCW_ofi (cc := cX8_items) (maxL := 3) (own := RX8) (by decide) rfl rfl (Nat.le_of_ble_eq_true rfl) (fun p e s m args below meth c Q ls A E hA hK hP hD hRet hS hl => ?_)
  refine zgen (fun H locs hP hS => ?_) hP hS
  have hl : lv_has ls 3 [(0, .ref xo), (1, .int p1)] := hl
  obtain ⟨hx, hb, hml, hown, hts⟩ := id E
  have inX6 : ∀ w ∈ u_ws RX6 TX6 8, w ∈ wsX8_items := by decide +kernel
  have inX8 : ∀ w ∈ u_ws RX8 TX8 8, w ∈ wsX8_items := by decide +kernel
  have fl10 := hts (.fieldLink RX8 10 "SplitClasses" "now" "LSplitClasses$State;") (by decide +kernel)
  have fl19 := hts (.fieldLink RX8 19 "SplitClasses" "history" "LSplitClasses$History;") (by decide +kernel)
  have fl65 := hts (.fieldLink RX8 65 "SplitClasses$State" "n" "I") (by decide +kernel)
  have cn113 := hts (.constant RX8 113 (-1000000002)) (by decide +kernel)
  refine lv_iload_n (pc := 0) hx hb dX8_items_0 rfl (lv_at hl 1 rfl) ?_
  refine lv_iconst (v := (1 : Int32)) (pc := 1) hx hb dX8_items_1 (by decide) ?_
  refine lv_icmp_lt (pc := 2) (tgt := 11) hx hb dX8_items_2 (by decide) (fun hc => ?_) (fun hc => ?_)
  · have hF := oif_t hF hc
    refine lv_ldc (v := (-1000000002 : Int32)) (pc := 11) hx hb hown cn113 dX8_items_11 ?_
    cases hF
    exact hRet _ _ _ _ rfl dX8_items_13 hP hD hS
  · have hF := oif_f hF hc
    refine lv_iload_n (pc := 5) hx hb dX8_items_5 rfl (lv_at hl 1 rfl) ?_
    refine lv_bipush (v := (12 : Int32)) (pc := 6) hx hb dX8_items_6 (by decide) ?_
    refine lv_icmp_le (pc := 8) (tgt := 14) hx hb dX8_items_8 (by decide) (fun hc => ?_) (fun hc => ?_)
    · have hF := oif_t hF hc
      refine lv_aload_n (pc := 14) hx hb dX8_items_14 rfl (lv_at hl 0 rfl) ?_
      refine va_get (pc := 15) (ci := 8) (C := RX8) (T := TX8) (N := 8) hx hb hts inX8 hown hK hP 0 rfl rfl 0 (by decide) fl10 (fun _ h9 => h9) rfl dX8_items_15 ?_
      refine va_get (pc := 18) (ci := 6) (C := RX6) (T := TX6) (N := 8) hx hb hts inX6 hown hK hP 3 rfl rfl 0 (by decide) fl65 (fun _ h9 => h9) rfl dX8_items_18 ?_
      refine lv_istore_n (lv' := [(2, .int sn), (0, .ref xo), (1, .int p1)]) (pc := 21) hx hb dX8_items_21 rfl hl (by decide) rfl (fun ls hl => ?_)
      refine lv_aload_n (pc := 22) hx hb dX8_items_22 rfl (lv_at hl 1 rfl) ?_
      refine va_get (pc := 23) (ci := 8) (C := RX8) (T := TX8) (N := 8) hx hb hts inX8 hown hK hP 0 rfl rfl 1 (by decide) fl19 (fun _ h9 => h9) rfl dX8_items_23 ?_
      refine lv_aload_n (pc := 26) hx hb dX8_items_26 rfl (lv_at hl 1 rfl) ?_
      refine va_get (pc := 27) (ci := 8) (C := RX8) (T := TX8) (N := 8) hx hb hts inX8 hown hK hP 0 rfl rfl 0 (by decide) fl10 (fun _ h9 => h9) rfl dX8_items_27 ?_
      obtain ⟨hnx_1, hct_1, rg_1, hC1, hF⟩ := ob3_e hF
      refine zVTT (T := (zRing cI ra rg)) (T1 := (zRing cI ra rg_1)) (pc := 30) (As := [.ref so]) (rest := []) (ws := [(xo, .inr (8, [.ref so, .ref ho, .ref ko, .ref ia, .ref fo, .ref wo, .ref zo, .ref dr])), (ho, .inr (2, [.ref rr, .int hnx, .int hct])), (rr, .inl (cS, 16, .inr (.inr (.inr (.inr (fun i => some (ra i).1)))))), (so, .inr (6, [.int sn, .int sl, .int sfin, .int swk, .ref sca, .ref sna, .ref sla, .ref sra])), (sca, .inl (cI, 12, .inl scols)), (sna, .inl (cI, 12, .inl snear)), (sla, .inl (cI, 36, .inl slds)), (sra, .inr (5, [.ref qs, .int qc])), (qs, .inl (cI, 12, .inl qf))]) (wc := [(ho, .inr (2, [.ref rr, .int hnx, .int hct])), (rr, .inl (cS, 16, .inr (.inr (.inr (.inr (fun i => some (ra i).1)))))), (so, .inr (6, [.int sn, .int sl, .int sfin, .int swk, .ref sca, .ref sna, .ref sla, .ref sra])), (sca, .inl (cI, 12, .inl scols)), (sna, .inl (cI, 12, .inl snear)), (sla, .inl (cI, 36, .inl slds)), (sra, .inr (5, [.ref qs, .int qc])), (qs, .inl (cI, 12, .inl qf))]) (w1 := [(ho, .inr (2, [.ref rr, .int hnx_1, .int hct_1])), (rr, .inl (cS, 16, .inr (.inr (.inr (.inr (fun i => some (ra i).1)))))), (so, .inr (6, [.int sn, .int sl, .int sfin, .int swk, .ref sca, .ref sna, .ref sla, .ref sra])), (sca, .inl (cI, 12, .inl scols)), (sna, .inl (cI, 12, .inl snear)), (sla, .inl (cI, 36, .inl slds)), (sra, .inr (5, [.ref qs, .int qc])), (qs, .inl (cI, 12, .inl qf))]) (wr := [(xo, .inr (8, [.ref so, .ref ho, .ref ko, .ref ia, .ref fo, .ref wo, .ref zo, .ref dr]))]) (w2 := [(xo, .inr (8, [.ref so, .ref ho, .ref ko, .ref ia, .ref fo, .ref wo, .ref zo, .ref dr])), (ho, .inr (2, [.ref rr, .int hnx_1, .int hct_1])), (rr, .inl (cS, 16, .inr (.inr (.inr (.inr (fun i => some (ra i).1)))))), (so, .inr (6, [.int sn, .int sl, .int sfin, .int swk, .ref sca, .ref sna, .ref sla, .ref sra])), (sca, .inl (cI, 12, .inl scols)), (sna, .inl (cI, 12, .inl snear)), (sla, .inl (cI, 36, .inl slds)), (sra, .inr (5, [.ref qs, .int qc])), (qs, .inl (cI, 12, .inl qf))]) E (tX2_remember l D cI cZ cM cS ho rr so sca sna sla sra qs ra hnx hct sn sl sfin swk scols snear slds qc qf rg hC1) 1 gX8_items_X2_remember rfl rfl rfl (by decide +kernel) ⟨Nat.le_of_ble_eq_true rfl, Nat.le_of_ble_eq_true rfl⟩ hK hP hD hS hA 9 [1, 2, 3, 4, 5, 6, 7, 8, 0] rfl rfl (by decide) rfl rfl 0 2 rfl rfl rfl rfl hl.1 rfl (Nat.le_of_ble_eq_true rfl) dX8_items_30 ⟨Nat.zero_le _, Nat.zero_le _⟩ (fun H locs hP hD hS => ?_)
      have hP : va_P D vwCl (wX8_items cI cZ cM cS xo so ho ko ia fo wo zo dr rr sca sna sla sra qs ra hnx_1 hct_1 sn sl sfin swk scols snear slds qc qf rg_1) H := hP
      have hD : va_D A (wX8_items cI cZ cM cS xo so ho ko ia fo wo zo dr rr sca sna sla sra qs ra hnx_1 hct_1 sn sl sfin swk scols snear slds qc qf rg_1) := hD
      refine W.eq (g2 := F0 m 33 ls []) rfl ?_
      refine lv_aload_n (pc := 33) hx hb dX8_items_33 rfl (lv_at hl 1 rfl) ?_
      refine va_get (pc := 34) (ci := 8) (C := RX8) (T := TX8) (N := 8) hx hb hts inX8 hown hK hP 0 rfl rfl 0 (by decide) fl10 (fun _ h9 => h9) rfl dX8_items_34 ?_
      refine lv_iload_n (pc := 37) hx hb dX8_items_37 rfl (lv_at hl 2 rfl) ?_
      obtain ⟨sn_1, sl_1, sfin_1, swk_1, scols_1, snear_1, slds_1, qc_1, qf_1, hC2, hF⟩ := ob9_e hF
      refine zVT (T := (zRing cI ra rg_1)) (pc := 38) (As := [.int p1]) (rest := []) (ws := [(xo, .inr (8, [.ref so, .ref ho, .ref ko, .ref ia, .ref fo, .ref wo, .ref zo, .ref dr])), (ho, .inr (2, [.ref rr, .int hnx_1, .int hct_1])), (rr, .inl (cS, 16, .inr (.inr (.inr (.inr (fun i => some (ra i).1)))))), (so, .inr (6, [.int sn, .int sl, .int sfin, .int swk, .ref sca, .ref sna, .ref sla, .ref sra])), (sca, .inl (cI, 12, .inl scols)), (sna, .inl (cI, 12, .inl snear)), (sla, .inl (cI, 36, .inl slds)), (sra, .inr (5, [.ref qs, .int qc])), (qs, .inl (cI, 12, .inl qf))]) (wc := [(so, .inr (6, [.int sn, .int sl, .int sfin, .int swk, .ref sca, .ref sna, .ref sla, .ref sra])), (sca, .inl (cI, 12, .inl scols)), (sna, .inl (cI, 12, .inl snear)), (sla, .inl (cI, 36, .inl slds)), (sra, .inr (5, [.ref qs, .int qc])), (qs, .inl (cI, 12, .inl qf))]) (w1 := [(so, .inr (6, [.int sn_1, .int sl_1, .int sfin_1, .int swk_1, .ref sca, .ref sna, .ref sla, .ref sra])), (sca, .inl (cI, 12, .inl scols_1)), (sna, .inl (cI, 12, .inl snear_1)), (sla, .inl (cI, 36, .inl slds_1)), (sra, .inr (5, [.ref qs, .int qc_1])), (qs, .inl (cI, 12, .inl qf_1))]) (wr := [(xo, .inr (8, [.ref so, .ref ho, .ref ko, .ref ia, .ref fo, .ref wo, .ref zo, .ref dr])), (ho, .inr (2, [.ref rr, .int hnx_1, .int hct_1])), (rr, .inl (cS, 16, .inr (.inr (.inr (.inr (fun i => some (ra i).1))))))]) (w2 := [(xo, .inr (8, [.ref so, .ref ho, .ref ko, .ref ia, .ref fo, .ref wo, .ref zo, .ref dr])), (ho, .inr (2, [.ref rr, .int hnx_1, .int hct_1])), (rr, .inl (cS, 16, .inr (.inr (.inr (.inr (fun i => some (ra i).1)))))), (so, .inr (6, [.int sn_1, .int sl_1, .int sfin_1, .int swk_1, .ref sca, .ref sna, .ref sla, .ref sra])), (sca, .inl (cI, 12, .inl scols_1)), (sna, .inl (cI, 12, .inl snear_1)), (sla, .inl (cI, 36, .inl slds_1)), (sra, .inr (5, [.ref qs, .int qc_1])), (qs, .inl (cI, 12, .inl qf_1))]) E (tX6_startWith l D cI cZ cM cS so sca sna sla sra qs sn sl sfin swk scols snear slds qc qf p1 hC2) 1 gX8_items_X6_startWith rfl rfl rfl (by decide +kernel) ⟨Nat.le_of_ble_eq_true rfl, Nat.le_of_ble_eq_true rfl⟩ hK hP hD hS hA 9 [3, 4, 5, 6, 7, 8, 0, 1, 2] rfl rfl (by decide) rfl rfl 0 6 rfl rfl rfl rfl hl.1 rfl (Nat.le_of_ble_eq_true rfl) dX8_items_38 ⟨Nat.zero_le _, Nat.zero_le _⟩ (fun H locs hP hD hS => ?_)
      have hP : va_P D vwCl (wX8_items cI cZ cM cS xo so ho ko ia fo wo zo dr rr sca sna sla sra qs ra hnx_1 hct_1 sn_1 sl_1 sfin_1 swk_1 scols_1 snear_1 slds_1 qc_1 qf_1 rg_1) H := hP
      have hD : va_D A (wX8_items cI cZ cM cS xo so ho ko ia fo wo zo dr rr sca sna sla sra qs ra hnx_1 hct_1 sn_1 sl_1 sfin_1 swk_1 scols_1 snear_1 slds_1 qc_1 qf_1 rg_1) := hD
      refine W.eq (g2 := F0 m 41 ls []) rfl ?_
      refine lv_iload_n (pc := 41) hx hb dX8_items_41 rfl (lv_at hl 0 rfl) ?_
      cases hF
      exact hRet _ _ _ _ rfl dX8_items_42 hP hD hS
    · have hF := oif_f hF hc
      refine lv_ldc (v := (-1000000002 : Int32)) (pc := 11) hx hb hown cn113 dX8_items_11 ?_
      cases hF
      exact hRet _ _ _ _ rfl dX8_items_13 hP hD hS
def fX8_edge (p1 : Int32) (p2 : Int32) (p3 : Int32) (hnx : Int32) (hct : Int32) (sn : Int32) (sl : Int32) (sfin : Int32) (swk : Int32) (scols : (Nat → Int32)) (snear : (Nat → Int32)) (slds : (Nat → Int32)) (qc : Int32) (qf : (Nat → Int32)) (rg : (Nat → zSV)) : Option (Int32 × Int32 × Int32 × (Nat → Int32) × (Nat → zSV)) := (ob1 (fX6_hasItem p1 sn sl sfin swk) (fun r_1 => (if r_1 = (0 : Int32) then (some ((-1000000001 : Int32), hnx, hct, snear, rg)) else (ob1 (fX6_hasItem p2 sn sl sfin swk) (fun r_2 => (if r_2 = (0 : Int32) then (some ((-1000000001 : Int32), hnx, hct, snear, rg)) else (if p1 = p2 then (some ((-1000000001 : Int32), hnx, hct, snear, rg)) else (if p3 = (0 : Int32) then (ob3 (fX2_remember hnx hct sn sl sfin swk scols snear slds qc qf rg) (fun hnx_1 hct_1 rg_1 => (ob1 (fX6_isEdge p1 p2 sn sl sfin swk snear) (fun r_3 => (ob1 (if p3 = (1 : Int32) then (some (1 : Int32)) else (some (0 : Int32))) (fun z0_1 => (ob1 (if r_3 = z0_1 then (some snear) else (ob1 (fX6_flipEdge p1 p2 sn sl sfin swk snear) (fun snear_3 => (some snear_3)))) (fun snear_2 => (ob1 (fX6_edgeCount sn sl sfin swk snear_2) (fun r_4 => (some (r_4, hnx_1, hct_1, snear_2, rg_1)))))))))))) else (if p3 = (1 : Int32) then (ob3 (fX2_remember hnx hct sn sl sfin swk scols snear slds qc qf rg) (fun hnx_2 hct_2 rg_2 => (ob1 (fX6_isEdge p1 p2 sn sl sfin swk snear) (fun r_5 => (ob1 (if p3 = (1 : Int32) then (some (1 : Int32)) else (some (0 : Int32))) (fun z0_2 => (ob1 (if r_5 = z0_2 then (some snear) else (ob1 (fX6_flipEdge p1 p2 sn sl sfin swk snear) (fun snear_6 => (some snear_6)))) (fun snear_5 => (ob1 (fX6_edgeCount sn sl sfin swk snear_5) (fun r_6 => (some (r_6, hnx_2, hct_2, snear_5, rg_2)))))))))))) else (some ((-1000000002 : Int32), hnx, hct, snear, rg)))))))))))
abbrev wX8_edge (cI cZ cM cS : ClassId) (xo so ho ko ia fo wo zo dr rr sca sna sla sra qs : Nat) (ra : Nat → zSA) (hnx : Int32) (hct : Int32) (sn : Int32) (sl : Int32) (sfin : Int32) (swk : Int32) (scols : (Nat → Int32)) (snear : (Nat → Int32)) (slds : (Nat → Int32)) (qc : Int32) (qf : (Nat → Int32)) (rg : (Nat → zSV)) : va_W := [(xo, .inr (8, [.ref so, .ref ho, .ref ko, .ref ia, .ref fo, .ref wo, .ref zo, .ref dr])), (ho, .inr (2, [.ref rr, .int hnx, .int hct])), (rr, .inl (cS, 16, .inr (.inr (.inr (.inr (fun i => some (ra i).1)))))), (so, .inr (6, [.int sn, .int sl, .int sfin, .int swk, .ref sca, .ref sna, .ref sla, .ref sra])), (sca, .inl (cI, 12, .inl scols)), (sna, .inl (cI, 12, .inl snear)), (sla, .inl (cI, 36, .inl slds)), (sra, .inr (5, [.ref qs, .int qc])), (qs, .inl (cI, 12, .inl qf))] ++ (zRing cI ra rg)
set_option maxHeartbeats 4000000 in
set_option maxRecDepth 100000 in
theorem tX8_edge (l : Launch) (D : va_G) (cI cZ cM cS : ClassId) (xo so ho ko ia fo wo zo dr rr sca sna sla sra qs : Nat) (ra : Nat → zSA) (hnx : Int32) (hct : Int32) (sn : Int32) (sl : Int32) (sfin : Int32) (swk : Int32) (scols : (Nat → Int32)) (snear : (Nat → Int32)) (slds : (Nat → Int32)) (qc : Int32) (qf : (Nat → Int32)) (rg : (Nat → zSV)) (p1 : Int32) (p2 : Int32) (p3 : Int32) {r : Int32} {hnx' : Int32} {hct' : Int32} {snear' : (Nat → Int32)} {rg' : (Nat → zSV)} (hF : fX8_edge p1 p2 p3 hnx hct sn sl sfin swk scols snear slds qc qf rg = some (r, hnx', hct', snear', rg')) : zCW l yX8_edge wsX8_edge (zRm 4 111) D (zTy cI cZ cM cS) [.ref xo, .int p1, .int p2, .int p3] (wX8_edge cI cZ cM cS xo so ho ko ia fo wo zo dr rr sca sna sla sra qs ra hnx hct sn sl sfin swk scols snear slds qc qf rg) (wX8_edge cI cZ cM cS xo so ho ko ia fo wo zo dr rr sca sna sla sra qs ra hnx' hct' sn sl sfin swk scols snear' slds qc qf rg') (some (.int r)) := by
  unfold fX8_edge at hF
  refine zCW_ofi (cc := cX8_edge) (maxL := 4) (own := RX8) (by decide) rfl rfl (Nat.le_of_ble_eq_true rfl) (fun p e s m args below meth c Q ls A E hA hK hP hD hRet hS hl => ?_)
  refine zgen (fun H locs hP hS => ?_) hP hS
  have hl : lv_has ls 4 [(0, .ref xo), (1, .int p1), (2, .int p2), (3, .int p3)] := hl
  obtain ⟨hx, hb, hml, hown, hts⟩ := id E
  have inX8 : ∀ w ∈ u_ws RX8 TX8 8, w ∈ wsX8_edge := by decide +kernel
  have fl10 := hts (.fieldLink RX8 10 "SplitClasses" "now" "LSplitClasses$State;") (by decide +kernel)
  have fl19 := hts (.fieldLink RX8 19 "SplitClasses" "history" "LSplitClasses$History;") (by decide +kernel)
  have cn113 := hts (.constant RX8 113 (-1000000002)) (by decide +kernel)
  have cn118 := hts (.constant RX8 118 (-1000000001)) (by decide +kernel)
  refine lv_aload_n (pc := 0) hx hb dX8_edge_0 rfl (lv_at hl 0 rfl) ?_
  refine va_get (pc := 1) (ci := 8) (C := RX8) (T := TX8) (N := 8) hx hb hts inX8 hown hK hP 0 rfl rfl 0 (by decide) fl10 (fun _ h9 => h9) rfl dX8_edge_1 ?_
  refine lv_iload_n (pc := 4) hx hb dX8_edge_4 rfl (lv_at hl 1 rfl) ?_
  obtain ⟨r_1, hC1, hF⟩ := ob1_e hF
  refine zVr (pc := 5) (As := [.int p1]) (rest := []) E (tX6_hasItem l D cI cZ cM cS so sca sna sla sra sn sl sfin swk p1 hC1) 1 gX8_edge_X6_hasItem rfl rfl rfl (by decide +kernel) ⟨Nat.le_of_ble_eq_true rfl, Nat.le_of_ble_eq_true rfl⟩ hK hP [3] rfl 0 6 rfl rfl rfl rfl hl.1 rfl (Nat.le_of_ble_eq_true rfl) dX8_edge_5 ⟨Nat.zero_le _, Nat.zero_le _⟩ ?_
  refine lv_if_eq (pc := 8) (tgt := 27) hx hb dX8_edge_8 (by decide) (fun hc => ?_) (fun hc => ?_)
  · have hF := oif_t hF hc
    refine lv_ldc (v := (-1000000001 : Int32)) (pc := 27) hx hb hown cn118 dX8_edge_27 ?_
    cases hF
    exact hRet _ _ _ _ rfl dX8_edge_29 hP hD hS
  · have hF := oif_f hF hc
    refine lv_aload_n (pc := 11) hx hb dX8_edge_11 rfl (lv_at hl 0 rfl) ?_
    refine va_get (pc := 12) (ci := 8) (C := RX8) (T := TX8) (N := 8) hx hb hts inX8 hown hK hP 0 rfl rfl 0 (by decide) fl10 (fun _ h9 => h9) rfl dX8_edge_12 ?_
    refine lv_iload_n (pc := 15) hx hb dX8_edge_15 rfl (lv_at hl 2 rfl) ?_
    obtain ⟨r_2, hC2, hF⟩ := ob1_e hF
    refine zVr (pc := 16) (As := [.int p2]) (rest := []) E (tX6_hasItem l D cI cZ cM cS so sca sna sla sra sn sl sfin swk p2 hC2) 1 gX8_edge_X6_hasItem rfl rfl rfl (by decide +kernel) ⟨Nat.le_of_ble_eq_true rfl, Nat.le_of_ble_eq_true rfl⟩ hK hP [3] rfl 0 6 rfl rfl rfl rfl hl.1 rfl (Nat.le_of_ble_eq_true rfl) dX8_edge_16 ⟨Nat.zero_le _, Nat.zero_le _⟩ ?_
    refine lv_if_eq (pc := 19) (tgt := 27) hx hb dX8_edge_19 (by decide) (fun hc => ?_) (fun hc => ?_)
    · have hF := oif_t hF hc
      refine lv_ldc (v := (-1000000001 : Int32)) (pc := 27) hx hb hown cn118 dX8_edge_27 ?_
      cases hF
      exact hRet _ _ _ _ rfl dX8_edge_29 hP hD hS
    · have hF := oif_f hF hc
      refine lv_iload_n (pc := 22) hx hb dX8_edge_22 rfl (lv_at hl 1 rfl) ?_
      refine lv_iload_n (pc := 23) hx hb dX8_edge_23 rfl (lv_at hl 2 rfl) ?_
      refine lv_icmp_ne (pc := 24) (tgt := 30) hx hb dX8_edge_24 (by decide) (fun hc => ?_) (fun hc => ?_)
      · have hF := oif_f hF hc
        refine lv_iload_n (pc := 30) hx hb dX8_edge_30 rfl (lv_at hl 3 rfl) ?_
        refine lv_if_eq (pc := 31) (tgt := 42) hx hb dX8_edge_31 (by decide) (fun hc => ?_) (fun hc => ?_)
        · have hF := oif_t hF hc
          refine lv_aload_n (pc := 42) hx hb dX8_edge_42 rfl (lv_at hl 0 rfl) ?_
          refine va_get (pc := 43) (ci := 8) (C := RX8) (T := TX8) (N := 8) hx hb hts inX8 hown hK hP 0 rfl rfl 1 (by decide) fl19 (fun _ h9 => h9) rfl dX8_edge_43 ?_
          refine lv_aload_n (pc := 46) hx hb dX8_edge_46 rfl (lv_at hl 0 rfl) ?_
          refine va_get (pc := 47) (ci := 8) (C := RX8) (T := TX8) (N := 8) hx hb hts inX8 hown hK hP 0 rfl rfl 0 (by decide) fl10 (fun _ h9 => h9) rfl dX8_edge_47 ?_
          obtain ⟨hnx_1, hct_1, rg_1, hC3, hF⟩ := ob3_e hF
          refine zVTT (T := (zRing cI ra rg)) (T1 := (zRing cI ra rg_1)) (pc := 50) (As := [.ref so]) (rest := []) (ws := [(xo, .inr (8, [.ref so, .ref ho, .ref ko, .ref ia, .ref fo, .ref wo, .ref zo, .ref dr])), (ho, .inr (2, [.ref rr, .int hnx, .int hct])), (rr, .inl (cS, 16, .inr (.inr (.inr (.inr (fun i => some (ra i).1)))))), (so, .inr (6, [.int sn, .int sl, .int sfin, .int swk, .ref sca, .ref sna, .ref sla, .ref sra])), (sca, .inl (cI, 12, .inl scols)), (sna, .inl (cI, 12, .inl snear)), (sla, .inl (cI, 36, .inl slds)), (sra, .inr (5, [.ref qs, .int qc])), (qs, .inl (cI, 12, .inl qf))]) (wc := [(ho, .inr (2, [.ref rr, .int hnx, .int hct])), (rr, .inl (cS, 16, .inr (.inr (.inr (.inr (fun i => some (ra i).1)))))), (so, .inr (6, [.int sn, .int sl, .int sfin, .int swk, .ref sca, .ref sna, .ref sla, .ref sra])), (sca, .inl (cI, 12, .inl scols)), (sna, .inl (cI, 12, .inl snear)), (sla, .inl (cI, 36, .inl slds)), (sra, .inr (5, [.ref qs, .int qc])), (qs, .inl (cI, 12, .inl qf))]) (w1 := [(ho, .inr (2, [.ref rr, .int hnx_1, .int hct_1])), (rr, .inl (cS, 16, .inr (.inr (.inr (.inr (fun i => some (ra i).1)))))), (so, .inr (6, [.int sn, .int sl, .int sfin, .int swk, .ref sca, .ref sna, .ref sla, .ref sra])), (sca, .inl (cI, 12, .inl scols)), (sna, .inl (cI, 12, .inl snear)), (sla, .inl (cI, 36, .inl slds)), (sra, .inr (5, [.ref qs, .int qc])), (qs, .inl (cI, 12, .inl qf))]) (wr := [(xo, .inr (8, [.ref so, .ref ho, .ref ko, .ref ia, .ref fo, .ref wo, .ref zo, .ref dr]))]) (w2 := [(xo, .inr (8, [.ref so, .ref ho, .ref ko, .ref ia, .ref fo, .ref wo, .ref zo, .ref dr])), (ho, .inr (2, [.ref rr, .int hnx_1, .int hct_1])), (rr, .inl (cS, 16, .inr (.inr (.inr (.inr (fun i => some (ra i).1)))))), (so, .inr (6, [.int sn, .int sl, .int sfin, .int swk, .ref sca, .ref sna, .ref sla, .ref sra])), (sca, .inl (cI, 12, .inl scols)), (sna, .inl (cI, 12, .inl snear)), (sla, .inl (cI, 36, .inl slds)), (sra, .inr (5, [.ref qs, .int qc])), (qs, .inl (cI, 12, .inl qf))]) E (tX2_remember l D cI cZ cM cS ho rr so sca sna sla sra qs ra hnx hct sn sl sfin swk scols snear slds qc qf rg hC3) 1 gX8_edge_X2_remember rfl rfl rfl (by decide +kernel) ⟨Nat.le_of_ble_eq_true rfl, Nat.le_of_ble_eq_true rfl⟩ hK hP hD hS hA 9 [1, 2, 3, 4, 5, 6, 7, 8, 0] rfl rfl (by decide) rfl rfl 0 2 rfl rfl rfl rfl hl.1 rfl (Nat.le_of_ble_eq_true rfl) dX8_edge_50 ⟨Nat.zero_le _, Nat.zero_le _⟩ (fun H locs hP hD hS => ?_)
          have hP : va_P D vwCl (wX8_edge cI cZ cM cS xo so ho ko ia fo wo zo dr rr sca sna sla sra qs ra hnx_1 hct_1 sn sl sfin swk scols snear slds qc qf rg_1) H := hP
          have hD : va_D A (wX8_edge cI cZ cM cS xo so ho ko ia fo wo zo dr rr sca sna sla sra qs ra hnx_1 hct_1 sn sl sfin swk scols snear slds qc qf rg_1) := hD
          refine W.eq (g2 := F0 m 53 ls []) rfl ?_
          refine lv_aload_n (pc := 53) hx hb dX8_edge_53 rfl (lv_at hl 0 rfl) ?_
          refine va_get (pc := 54) (ci := 8) (C := RX8) (T := TX8) (N := 8) hx hb hts inX8 hown hK hP 0 rfl rfl 0 (by decide) fl10 (fun _ h9 => h9) rfl dX8_edge_54 ?_
          refine lv_iload_n (pc := 57) hx hb dX8_edge_57 rfl (lv_at hl 1 rfl) ?_
          refine lv_iload_n (pc := 58) hx hb dX8_edge_58 rfl (lv_at hl 2 rfl) ?_
          obtain ⟨r_3, hC4, hF⟩ := ob1_e hF
          refine zVr (pc := 59) (As := [.int p1, .int p2]) (rest := []) E (tX6_isEdge l D cI cZ cM cS so sca sna sla sra sn sl sfin swk snear p1 p2 hC4) 2 gX8_edge_X6_isEdge rfl rfl rfl (by decide +kernel) ⟨Nat.le_of_ble_eq_true rfl, Nat.le_of_ble_eq_true rfl⟩ hK hP [3, 5] rfl 0 6 rfl rfl rfl rfl hl.1 rfl (Nat.le_of_ble_eq_true rfl) dX8_edge_59 ⟨Nat.zero_le _, Nat.zero_le _⟩ ?_
          refine lv_iload_n (pc := 62) hx hb dX8_edge_62 rfl (lv_at hl 3 rfl) ?_
          refine lv_iconst (v := (1 : Int32)) (pc := 63) hx hb dX8_edge_63 (by decide) ?_
          obtain ⟨z0_1, hM5, hF⟩ := ob1_e hF
          have jn5 : ∀ (H : Heap) (locs : List Loc) (ls : Array Slot), va_P D vwCl (wX8_edge cI cZ cM cS xo so ho ko ia fo wo zo dr rr sca sna sla sra qs ra hnx_1 hct_1 sn sl sfin swk scols snear slds qc qf rg_1) H → va_D A (wX8_edge cI cZ cM cS xo so ho ko ia fo wo zo dr rr sca sna sla sra qs ra hnx_1 hct_1 sn sl sfin swk scols snear slds qc qf rg_1) → va_S A s.heap H locs → lv_has ls 4 [(0, .ref xo), (1, .int p1), (2, .int p2)] → W p l e (zRm 4 111) s m args below meth c H locs 0 0 Q (F0 m 72 ls [.int z0_1, .int r_3]) := by
            intro H locs ls hP hD hS hl
            obtain ⟨snear_2, hM7, hF⟩ := ob1_e hF
            have jn7 : ∀ (H : Heap) (locs : List Loc) (ls : Array Slot), va_P D vwCl (wX8_edge cI cZ cM cS xo so ho ko ia fo wo zo dr rr sca sna sla sra qs ra hnx_1 hct_1 sn sl sfin swk scols snear_2 slds qc qf rg_1) H → va_D A (wX8_edge cI cZ cM cS xo so ho ko ia fo wo zo dr rr sca sna sla sra qs ra hnx_1 hct_1 sn sl sfin swk scols snear_2 slds qc qf rg_1) → va_S A s.heap H locs → lv_has ls 4 [(0, .ref xo)] → W p l e (zRm 4 111) s m args below meth c H locs 0 0 Q (F0 m 84 ls []) := by
              intro H locs ls hP hD hS hl
              refine lv_aload_n (pc := 84) hx hb dX8_edge_84 rfl (lv_at hl 0 rfl) ?_
              refine va_get (pc := 85) (ci := 8) (C := RX8) (T := TX8) (N := 8) hx hb hts inX8 hown hK hP 0 rfl rfl 0 (by decide) fl10 (fun _ h9 => h9) rfl dX8_edge_85 ?_
              obtain ⟨r_4, hC8, hF⟩ := ob1_e hF
              refine zVr (pc := 88) (As := []) (rest := []) E (tX6_edgeCount l D cI cZ cM cS so sca sna sla sra sn sl sfin swk snear_2 hC8) 0 gX8_edge_X6_edgeCount rfl rfl rfl (by decide +kernel) ⟨Nat.le_of_ble_eq_true rfl, Nat.le_of_ble_eq_true rfl⟩ hK hP [3, 5] rfl 0 6 rfl rfl rfl rfl hl.1 rfl (Nat.le_of_ble_eq_true rfl) dX8_edge_88 ⟨Nat.zero_le _, Nat.zero_le _⟩ ?_
              cases hF
              exact hRet _ _ _ _ rfl dX8_edge_91 hP hD hS
            refine lv_icmp_eq (pc := 72) (tgt := 84) hx hb dX8_edge_72 (by decide) (fun hc => ?_) (fun hc => ?_)
            · have hM7 := oif_t hM7 hc
              cases hM7
              exact jn7 _ _ _ hP hD hS (lv_sub hl [0] rfl)
            · have hM7 := oif_f hM7 hc
              refine lv_aload_n (pc := 75) hx hb dX8_edge_75 rfl (lv_at hl 0 rfl) ?_
              refine va_get (pc := 76) (ci := 8) (C := RX8) (T := TX8) (N := 8) hx hb hts inX8 hown hK hP 0 rfl rfl 0 (by decide) fl10 (fun _ h9 => h9) rfl dX8_edge_76 ?_
              refine lv_iload_n (pc := 79) hx hb dX8_edge_79 rfl (lv_at hl 1 rfl) ?_
              refine lv_iload_n (pc := 80) hx hb dX8_edge_80 rfl (lv_at hl 2 rfl) ?_
              obtain ⟨snear_3, hC9, hM7⟩ := ob1_e hM7
              refine zVT (T := (zRing cI ra rg_1)) (pc := 81) (As := [.int p1, .int p2]) (rest := []) (ws := [(xo, .inr (8, [.ref so, .ref ho, .ref ko, .ref ia, .ref fo, .ref wo, .ref zo, .ref dr])), (ho, .inr (2, [.ref rr, .int hnx_1, .int hct_1])), (rr, .inl (cS, 16, .inr (.inr (.inr (.inr (fun i => some (ra i).1)))))), (so, .inr (6, [.int sn, .int sl, .int sfin, .int swk, .ref sca, .ref sna, .ref sla, .ref sra])), (sca, .inl (cI, 12, .inl scols)), (sna, .inl (cI, 12, .inl snear)), (sla, .inl (cI, 36, .inl slds)), (sra, .inr (5, [.ref qs, .int qc])), (qs, .inl (cI, 12, .inl qf))]) (wc := [(so, .inr (6, [.int sn, .int sl, .int sfin, .int swk, .ref sca, .ref sna, .ref sla, .ref sra])), (sna, .inl (cI, 12, .inl snear))]) (w1 := [(so, .inr (6, [.int sn, .int sl, .int sfin, .int swk, .ref sca, .ref sna, .ref sla, .ref sra])), (sna, .inl (cI, 12, .inl snear_3))]) (wr := [(xo, .inr (8, [.ref so, .ref ho, .ref ko, .ref ia, .ref fo, .ref wo, .ref zo, .ref dr])), (ho, .inr (2, [.ref rr, .int hnx_1, .int hct_1])), (rr, .inl (cS, 16, .inr (.inr (.inr (.inr (fun i => some (ra i).1)))))), (sca, .inl (cI, 12, .inl scols)), (sla, .inl (cI, 36, .inl slds)), (sra, .inr (5, [.ref qs, .int qc])), (qs, .inl (cI, 12, .inl qf))]) (w2 := [(xo, .inr (8, [.ref so, .ref ho, .ref ko, .ref ia, .ref fo, .ref wo, .ref zo, .ref dr])), (ho, .inr (2, [.ref rr, .int hnx_1, .int hct_1])), (rr, .inl (cS, 16, .inr (.inr (.inr (.inr (fun i => some (ra i).1)))))), (so, .inr (6, [.int sn, .int sl, .int sfin, .int swk, .ref sca, .ref sna, .ref sla, .ref sra])), (sca, .inl (cI, 12, .inl scols)), (sna, .inl (cI, 12, .inl snear_3)), (sla, .inl (cI, 36, .inl slds)), (sra, .inr (5, [.ref qs, .int qc])), (qs, .inl (cI, 12, .inl qf))]) E (tX6_flipEdge l D cI cZ cM cS so sca sna sla sra sn sl sfin swk snear p1 p2 hC9) 2 gX8_edge_X6_flipEdge rfl rfl rfl (by decide +kernel) ⟨Nat.le_of_ble_eq_true rfl, Nat.le_of_ble_eq_true rfl⟩ hK hP hD hS hA 9 [3, 5, 0, 1, 2, 4, 6, 7, 8] rfl rfl (by decide) rfl rfl 0 6 rfl rfl rfl rfl hl.1 rfl (Nat.le_of_ble_eq_true rfl) dX8_edge_81 ⟨Nat.zero_le _, Nat.zero_le _⟩ (fun H locs hP hD hS => ?_)
              have hP : va_P D vwCl (wX8_edge cI cZ cM cS xo so ho ko ia fo wo zo dr rr sca sna sla sra qs ra hnx_1 hct_1 sn sl sfin swk scols snear_3 slds qc qf rg_1) H := hP
              have hD : va_D A (wX8_edge cI cZ cM cS xo so ho ko ia fo wo zo dr rr sca sna sla sra qs ra hnx_1 hct_1 sn sl sfin swk scols snear_3 slds qc qf rg_1) := hD
              refine W.eq (g2 := F0 m 84 ls []) rfl ?_
              cases hM7
              exact jn7 _ _ _ hP hD hS (lv_sub hl [0] rfl)
          refine lv_icmp_ne (pc := 64) (tgt := 71) hx hb dX8_edge_64 (by decide) (fun hc => ?_) (fun hc => ?_)
          · have hM5 := oif_f hM5 hc
            refine lv_iconst (v := (0 : Int32)) (pc := 71) hx hb dX8_edge_71 (by decide) ?_
            cases hM5
            exact jn5 _ _ _ hP hD hS (lv_sub hl [0, 1, 2] rfl)
          · have hM5 := oif_t hM5 hc
            refine lv_iconst (v := (1 : Int32)) (pc := 67) hx hb dX8_edge_67 (by decide) ?_
            refine lv_goto (pc := 68) (tgt := 72) hx hb dX8_edge_68 (by decide) ?_
            cases hM5
            exact jn5 _ _ _ hP hD hS (lv_sub hl [0, 1, 2] rfl)
        · have hF := oif_f hF hc
          refine lv_iload_n (pc := 34) hx hb dX8_edge_34 rfl (lv_at hl 3 rfl) ?_
          refine lv_iconst (v := (1 : Int32)) (pc := 35) hx hb dX8_edge_35 (by decide) ?_
          refine lv_icmp_eq (pc := 36) (tgt := 42) hx hb dX8_edge_36 (by decide) (fun hc => ?_) (fun hc => ?_)
          · have hF := oif_t hF hc
            refine lv_aload_n (pc := 42) hx hb dX8_edge_42 rfl (lv_at hl 0 rfl) ?_
            refine va_get (pc := 43) (ci := 8) (C := RX8) (T := TX8) (N := 8) hx hb hts inX8 hown hK hP 0 rfl rfl 1 (by decide) fl19 (fun _ h9 => h9) rfl dX8_edge_43 ?_
            refine lv_aload_n (pc := 46) hx hb dX8_edge_46 rfl (lv_at hl 0 rfl) ?_
            refine va_get (pc := 47) (ci := 8) (C := RX8) (T := TX8) (N := 8) hx hb hts inX8 hown hK hP 0 rfl rfl 0 (by decide) fl10 (fun _ h9 => h9) rfl dX8_edge_47 ?_
            obtain ⟨hnx_2, hct_2, rg_2, hC10, hF⟩ := ob3_e hF
            refine zVTT (T := (zRing cI ra rg)) (T1 := (zRing cI ra rg_2)) (pc := 50) (As := [.ref so]) (rest := []) (ws := [(xo, .inr (8, [.ref so, .ref ho, .ref ko, .ref ia, .ref fo, .ref wo, .ref zo, .ref dr])), (ho, .inr (2, [.ref rr, .int hnx, .int hct])), (rr, .inl (cS, 16, .inr (.inr (.inr (.inr (fun i => some (ra i).1)))))), (so, .inr (6, [.int sn, .int sl, .int sfin, .int swk, .ref sca, .ref sna, .ref sla, .ref sra])), (sca, .inl (cI, 12, .inl scols)), (sna, .inl (cI, 12, .inl snear)), (sla, .inl (cI, 36, .inl slds)), (sra, .inr (5, [.ref qs, .int qc])), (qs, .inl (cI, 12, .inl qf))]) (wc := [(ho, .inr (2, [.ref rr, .int hnx, .int hct])), (rr, .inl (cS, 16, .inr (.inr (.inr (.inr (fun i => some (ra i).1)))))), (so, .inr (6, [.int sn, .int sl, .int sfin, .int swk, .ref sca, .ref sna, .ref sla, .ref sra])), (sca, .inl (cI, 12, .inl scols)), (sna, .inl (cI, 12, .inl snear)), (sla, .inl (cI, 36, .inl slds)), (sra, .inr (5, [.ref qs, .int qc])), (qs, .inl (cI, 12, .inl qf))]) (w1 := [(ho, .inr (2, [.ref rr, .int hnx_2, .int hct_2])), (rr, .inl (cS, 16, .inr (.inr (.inr (.inr (fun i => some (ra i).1)))))), (so, .inr (6, [.int sn, .int sl, .int sfin, .int swk, .ref sca, .ref sna, .ref sla, .ref sra])), (sca, .inl (cI, 12, .inl scols)), (sna, .inl (cI, 12, .inl snear)), (sla, .inl (cI, 36, .inl slds)), (sra, .inr (5, [.ref qs, .int qc])), (qs, .inl (cI, 12, .inl qf))]) (wr := [(xo, .inr (8, [.ref so, .ref ho, .ref ko, .ref ia, .ref fo, .ref wo, .ref zo, .ref dr]))]) (w2 := [(xo, .inr (8, [.ref so, .ref ho, .ref ko, .ref ia, .ref fo, .ref wo, .ref zo, .ref dr])), (ho, .inr (2, [.ref rr, .int hnx_2, .int hct_2])), (rr, .inl (cS, 16, .inr (.inr (.inr (.inr (fun i => some (ra i).1)))))), (so, .inr (6, [.int sn, .int sl, .int sfin, .int swk, .ref sca, .ref sna, .ref sla, .ref sra])), (sca, .inl (cI, 12, .inl scols)), (sna, .inl (cI, 12, .inl snear)), (sla, .inl (cI, 36, .inl slds)), (sra, .inr (5, [.ref qs, .int qc])), (qs, .inl (cI, 12, .inl qf))]) E (tX2_remember l D cI cZ cM cS ho rr so sca sna sla sra qs ra hnx hct sn sl sfin swk scols snear slds qc qf rg hC10) 1 gX8_edge_X2_remember rfl rfl rfl (by decide +kernel) ⟨Nat.le_of_ble_eq_true rfl, Nat.le_of_ble_eq_true rfl⟩ hK hP hD hS hA 9 [1, 2, 3, 4, 5, 6, 7, 8, 0] rfl rfl (by decide) rfl rfl 0 2 rfl rfl rfl rfl hl.1 rfl (Nat.le_of_ble_eq_true rfl) dX8_edge_50 ⟨Nat.zero_le _, Nat.zero_le _⟩ (fun H locs hP hD hS => ?_)
            have hP : va_P D vwCl (wX8_edge cI cZ cM cS xo so ho ko ia fo wo zo dr rr sca sna sla sra qs ra hnx_2 hct_2 sn sl sfin swk scols snear slds qc qf rg_2) H := hP
            have hD : va_D A (wX8_edge cI cZ cM cS xo so ho ko ia fo wo zo dr rr sca sna sla sra qs ra hnx_2 hct_2 sn sl sfin swk scols snear slds qc qf rg_2) := hD
            refine W.eq (g2 := F0 m 53 ls []) rfl ?_
            refine lv_aload_n (pc := 53) hx hb dX8_edge_53 rfl (lv_at hl 0 rfl) ?_
            refine va_get (pc := 54) (ci := 8) (C := RX8) (T := TX8) (N := 8) hx hb hts inX8 hown hK hP 0 rfl rfl 0 (by decide) fl10 (fun _ h9 => h9) rfl dX8_edge_54 ?_
            refine lv_iload_n (pc := 57) hx hb dX8_edge_57 rfl (lv_at hl 1 rfl) ?_
            refine lv_iload_n (pc := 58) hx hb dX8_edge_58 rfl (lv_at hl 2 rfl) ?_
            obtain ⟨r_5, hC11, hF⟩ := ob1_e hF
            refine zVr (pc := 59) (As := [.int p1, .int p2]) (rest := []) E (tX6_isEdge l D cI cZ cM cS so sca sna sla sra sn sl sfin swk snear p1 p2 hC11) 2 gX8_edge_X6_isEdge rfl rfl rfl (by decide +kernel) ⟨Nat.le_of_ble_eq_true rfl, Nat.le_of_ble_eq_true rfl⟩ hK hP [3, 5] rfl 0 6 rfl rfl rfl rfl hl.1 rfl (Nat.le_of_ble_eq_true rfl) dX8_edge_59 ⟨Nat.zero_le _, Nat.zero_le _⟩ ?_
            refine lv_iload_n (pc := 62) hx hb dX8_edge_62 rfl (lv_at hl 3 rfl) ?_
            refine lv_iconst (v := (1 : Int32)) (pc := 63) hx hb dX8_edge_63 (by decide) ?_
            obtain ⟨z0_2, hM12, hF⟩ := ob1_e hF
            have jn12 : ∀ (H : Heap) (locs : List Loc) (ls : Array Slot), va_P D vwCl (wX8_edge cI cZ cM cS xo so ho ko ia fo wo zo dr rr sca sna sla sra qs ra hnx_2 hct_2 sn sl sfin swk scols snear slds qc qf rg_2) H → va_D A (wX8_edge cI cZ cM cS xo so ho ko ia fo wo zo dr rr sca sna sla sra qs ra hnx_2 hct_2 sn sl sfin swk scols snear slds qc qf rg_2) → va_S A s.heap H locs → lv_has ls 4 [(0, .ref xo), (1, .int p1), (2, .int p2)] → W p l e (zRm 4 111) s m args below meth c H locs 0 0 Q (F0 m 72 ls [.int z0_2, .int r_5]) := by
              intro H locs ls hP hD hS hl
              obtain ⟨snear_5, hM14, hF⟩ := ob1_e hF
              have jn14 : ∀ (H : Heap) (locs : List Loc) (ls : Array Slot), va_P D vwCl (wX8_edge cI cZ cM cS xo so ho ko ia fo wo zo dr rr sca sna sla sra qs ra hnx_2 hct_2 sn sl sfin swk scols snear_5 slds qc qf rg_2) H → va_D A (wX8_edge cI cZ cM cS xo so ho ko ia fo wo zo dr rr sca sna sla sra qs ra hnx_2 hct_2 sn sl sfin swk scols snear_5 slds qc qf rg_2) → va_S A s.heap H locs → lv_has ls 4 [(0, .ref xo)] → W p l e (zRm 4 111) s m args below meth c H locs 0 0 Q (F0 m 84 ls []) := by
                intro H locs ls hP hD hS hl
                refine lv_aload_n (pc := 84) hx hb dX8_edge_84 rfl (lv_at hl 0 rfl) ?_
                refine va_get (pc := 85) (ci := 8) (C := RX8) (T := TX8) (N := 8) hx hb hts inX8 hown hK hP 0 rfl rfl 0 (by decide) fl10 (fun _ h9 => h9) rfl dX8_edge_85 ?_
                obtain ⟨r_6, hC15, hF⟩ := ob1_e hF
                refine zVr (pc := 88) (As := []) (rest := []) E (tX6_edgeCount l D cI cZ cM cS so sca sna sla sra sn sl sfin swk snear_5 hC15) 0 gX8_edge_X6_edgeCount rfl rfl rfl (by decide +kernel) ⟨Nat.le_of_ble_eq_true rfl, Nat.le_of_ble_eq_true rfl⟩ hK hP [3, 5] rfl 0 6 rfl rfl rfl rfl hl.1 rfl (Nat.le_of_ble_eq_true rfl) dX8_edge_88 ⟨Nat.zero_le _, Nat.zero_le _⟩ ?_
                cases hF
                exact hRet _ _ _ _ rfl dX8_edge_91 hP hD hS
              refine lv_icmp_eq (pc := 72) (tgt := 84) hx hb dX8_edge_72 (by decide) (fun hc => ?_) (fun hc => ?_)
              · have hM14 := oif_t hM14 hc
                cases hM14
                exact jn14 _ _ _ hP hD hS (lv_sub hl [0] rfl)
              · have hM14 := oif_f hM14 hc
                refine lv_aload_n (pc := 75) hx hb dX8_edge_75 rfl (lv_at hl 0 rfl) ?_
                refine va_get (pc := 76) (ci := 8) (C := RX8) (T := TX8) (N := 8) hx hb hts inX8 hown hK hP 0 rfl rfl 0 (by decide) fl10 (fun _ h9 => h9) rfl dX8_edge_76 ?_
                refine lv_iload_n (pc := 79) hx hb dX8_edge_79 rfl (lv_at hl 1 rfl) ?_
                refine lv_iload_n (pc := 80) hx hb dX8_edge_80 rfl (lv_at hl 2 rfl) ?_
                obtain ⟨snear_6, hC16, hM14⟩ := ob1_e hM14
                refine zVT (T := (zRing cI ra rg_2)) (pc := 81) (As := [.int p1, .int p2]) (rest := []) (ws := [(xo, .inr (8, [.ref so, .ref ho, .ref ko, .ref ia, .ref fo, .ref wo, .ref zo, .ref dr])), (ho, .inr (2, [.ref rr, .int hnx_2, .int hct_2])), (rr, .inl (cS, 16, .inr (.inr (.inr (.inr (fun i => some (ra i).1)))))), (so, .inr (6, [.int sn, .int sl, .int sfin, .int swk, .ref sca, .ref sna, .ref sla, .ref sra])), (sca, .inl (cI, 12, .inl scols)), (sna, .inl (cI, 12, .inl snear)), (sla, .inl (cI, 36, .inl slds)), (sra, .inr (5, [.ref qs, .int qc])), (qs, .inl (cI, 12, .inl qf))]) (wc := [(so, .inr (6, [.int sn, .int sl, .int sfin, .int swk, .ref sca, .ref sna, .ref sla, .ref sra])), (sna, .inl (cI, 12, .inl snear))]) (w1 := [(so, .inr (6, [.int sn, .int sl, .int sfin, .int swk, .ref sca, .ref sna, .ref sla, .ref sra])), (sna, .inl (cI, 12, .inl snear_6))]) (wr := [(xo, .inr (8, [.ref so, .ref ho, .ref ko, .ref ia, .ref fo, .ref wo, .ref zo, .ref dr])), (ho, .inr (2, [.ref rr, .int hnx_2, .int hct_2])), (rr, .inl (cS, 16, .inr (.inr (.inr (.inr (fun i => some (ra i).1)))))), (sca, .inl (cI, 12, .inl scols)), (sla, .inl (cI, 36, .inl slds)), (sra, .inr (5, [.ref qs, .int qc])), (qs, .inl (cI, 12, .inl qf))]) (w2 := [(xo, .inr (8, [.ref so, .ref ho, .ref ko, .ref ia, .ref fo, .ref wo, .ref zo, .ref dr])), (ho, .inr (2, [.ref rr, .int hnx_2, .int hct_2])), (rr, .inl (cS, 16, .inr (.inr (.inr (.inr (fun i => some (ra i).1)))))), (so, .inr (6, [.int sn, .int sl, .int sfin, .int swk, .ref sca, .ref sna, .ref sla, .ref sra])), (sca, .inl (cI, 12, .inl scols)), (sna, .inl (cI, 12, .inl snear_6)), (sla, .inl (cI, 36, .inl slds)), (sra, .inr (5, [.ref qs, .int qc])), (qs, .inl (cI, 12, .inl qf))]) E (tX6_flipEdge l D cI cZ cM cS so sca sna sla sra sn sl sfin swk snear p1 p2 hC16) 2 gX8_edge_X6_flipEdge rfl rfl rfl (by decide +kernel) ⟨Nat.le_of_ble_eq_true rfl, Nat.le_of_ble_eq_true rfl⟩ hK hP hD hS hA 9 [3, 5, 0, 1, 2, 4, 6, 7, 8] rfl rfl (by decide) rfl rfl 0 6 rfl rfl rfl rfl hl.1 rfl (Nat.le_of_ble_eq_true rfl) dX8_edge_81 ⟨Nat.zero_le _, Nat.zero_le _⟩ (fun H locs hP hD hS => ?_)
                have hP : va_P D vwCl (wX8_edge cI cZ cM cS xo so ho ko ia fo wo zo dr rr sca sna sla sra qs ra hnx_2 hct_2 sn sl sfin swk scols snear_6 slds qc qf rg_2) H := hP
                have hD : va_D A (wX8_edge cI cZ cM cS xo so ho ko ia fo wo zo dr rr sca sna sla sra qs ra hnx_2 hct_2 sn sl sfin swk scols snear_6 slds qc qf rg_2) := hD
                refine W.eq (g2 := F0 m 84 ls []) rfl ?_
                cases hM14
                exact jn14 _ _ _ hP hD hS (lv_sub hl [0] rfl)
            refine lv_icmp_ne (pc := 64) (tgt := 71) hx hb dX8_edge_64 (by decide) (fun hc => ?_) (fun hc => ?_)
            · have hM12 := oif_f hM12 hc
              refine lv_iconst (v := (0 : Int32)) (pc := 71) hx hb dX8_edge_71 (by decide) ?_
              cases hM12
              exact jn12 _ _ _ hP hD hS (lv_sub hl [0, 1, 2] rfl)
            · have hM12 := oif_t hM12 hc
              refine lv_iconst (v := (1 : Int32)) (pc := 67) hx hb dX8_edge_67 (by decide) ?_
              refine lv_goto (pc := 68) (tgt := 72) hx hb dX8_edge_68 (by decide) ?_
              cases hM12
              exact jn12 _ _ _ hP hD hS (lv_sub hl [0, 1, 2] rfl)
          · have hF := oif_f hF hc
            refine lv_ldc (v := (-1000000002 : Int32)) (pc := 39) hx hb hown cn113 dX8_edge_39 ?_
            cases hF
            exact hRet _ _ _ _ rfl dX8_edge_41 hP hD hS
      · have hF := oif_t hF hc
        refine lv_ldc (v := (-1000000001 : Int32)) (pc := 27) hx hb hown cn118 dX8_edge_27 ?_
        cases hF
        exact hRet _ _ _ _ rfl dX8_edge_29 hP hD hS
def fX8_columns (p1 : Int32) (p2 : Int32) (hnx : Int32) (hct : Int32) (sn : Int32) (sl : Int32) (sfin : Int32) (swk : Int32) (scols : (Nat → Int32)) (snear : (Nat → Int32)) (slds : (Nat → Int32)) (qc : Int32) (qf : (Nat → Int32)) (rg : (Nat → zSV)) : Option (Int32 × Int32 × Int32 × (Nat → Int32) × (Nat → zSV)) := (ob1 (fX6_hasItem p1 sn sl sfin swk) (fun r_1 => (if r_1 = (0 : Int32) then (some ((-1000000001 : Int32), hnx, hct, scols, rg)) else (if p2 < (0 : Int32) then (some ((-1000000002 : Int32), hnx, hct, scols, rg)) else (if p2 < (256 : Int32) then (ogd p1 12 (ob3 (fX2_remember hnx hct sn sl sfin swk scols snear slds qc qf rg) (fun hnx_1 hct_1 rg_1 => (ogd p1 12 (some ((scols (Int32.toNatClampNeg p1)), hnx_1, hct_1, (upd scols (Int32.toNatClampNeg p1) p2), rg_1)))))) else (some ((-1000000002 : Int32), hnx, hct, scols, rg)))))))
abbrev wX8_columns (cI cZ cM cS : ClassId) (xo so ho ko ia fo wo zo dr rr sca sna sla sra qs : Nat) (ra : Nat → zSA) (hnx : Int32) (hct : Int32) (sn : Int32) (sl : Int32) (sfin : Int32) (swk : Int32) (scols : (Nat → Int32)) (snear : (Nat → Int32)) (slds : (Nat → Int32)) (qc : Int32) (qf : (Nat → Int32)) (rg : (Nat → zSV)) : va_W := [(xo, .inr (8, [.ref so, .ref ho, .ref ko, .ref ia, .ref fo, .ref wo, .ref zo, .ref dr])), (ho, .inr (2, [.ref rr, .int hnx, .int hct])), (rr, .inl (cS, 16, .inr (.inr (.inr (.inr (fun i => some (ra i).1)))))), (so, .inr (6, [.int sn, .int sl, .int sfin, .int swk, .ref sca, .ref sna, .ref sla, .ref sra])), (sca, .inl (cI, 12, .inl scols)), (sna, .inl (cI, 12, .inl snear)), (sla, .inl (cI, 36, .inl slds)), (sra, .inr (5, [.ref qs, .int qc])), (qs, .inl (cI, 12, .inl qf))] ++ (zRing cI ra rg)
set_option maxHeartbeats 4000000 in
set_option maxRecDepth 100000 in
theorem tX8_columns (l : Launch) (D : va_G) (cI cZ cM cS : ClassId) (xo so ho ko ia fo wo zo dr rr sca sna sla sra qs : Nat) (ra : Nat → zSA) (hnx : Int32) (hct : Int32) (sn : Int32) (sl : Int32) (sfin : Int32) (swk : Int32) (scols : (Nat → Int32)) (snear : (Nat → Int32)) (slds : (Nat → Int32)) (qc : Int32) (qf : (Nat → Int32)) (rg : (Nat → zSV)) (p1 : Int32) (p2 : Int32) {r : Int32} {hnx' : Int32} {hct' : Int32} {scols' : (Nat → Int32)} {rg' : (Nat → zSV)} (hF : fX8_columns p1 p2 hnx hct sn sl sfin swk scols snear slds qc qf rg = some (r, hnx', hct', scols', rg')) : zCW l yX8_columns wsX8_columns (zRm 4 111) D (zTy cI cZ cM cS) [.ref xo, .int p1, .int p2] (wX8_columns cI cZ cM cS xo so ho ko ia fo wo zo dr rr sca sna sla sra qs ra hnx hct sn sl sfin swk scols snear slds qc qf rg) (wX8_columns cI cZ cM cS xo so ho ko ia fo wo zo dr rr sca sna sla sra qs ra hnx' hct' sn sl sfin swk scols' snear slds qc qf rg') (some (.int r)) := by
  unfold fX8_columns at hF
  refine zCW_ofi (cc := cX8_columns) (maxL := 4) (own := RX8) (by decide) rfl rfl (Nat.le_of_ble_eq_true rfl) (fun p e s m args below meth c Q ls A E hA hK hP hD hRet hS hl => ?_)
  refine zgen (fun H locs hP hS => ?_) hP hS
  have hl : lv_has ls 4 [(0, .ref xo), (1, .int p1), (2, .int p2)] := hl
  obtain ⟨hx, hb, hml, hown, hts⟩ := id E
  have inX6 : ∀ w ∈ u_ws RX6 TX6 8, w ∈ wsX8_columns := by decide +kernel
  have inX8 : ∀ w ∈ u_ws RX8 TX8 8, w ∈ wsX8_columns := by decide +kernel
  have fl10 := hts (.fieldLink RX8 10 "SplitClasses" "now" "LSplitClasses$State;") (by decide +kernel)
  have fl119 := hts (.fieldLink RX8 119 "SplitClasses$State" "columnSets" "[I") (by decide +kernel)
  have fl19 := hts (.fieldLink RX8 19 "SplitClasses" "history" "LSplitClasses$History;") (by decide +kernel)
  have cn113 := hts (.constant RX8 113 (-1000000002)) (by decide +kernel)
  have cn118 := hts (.constant RX8 118 (-1000000001)) (by decide +kernel)
  refine lv_aload_n (pc := 0) hx hb dX8_columns_0 rfl (lv_at hl 0 rfl) ?_
  refine va_get (pc := 1) (ci := 8) (C := RX8) (T := TX8) (N := 8) hx hb hts inX8 hown hK hP 0 rfl rfl 0 (by decide) fl10 (fun _ h9 => h9) rfl dX8_columns_1 ?_
  refine lv_iload_n (pc := 4) hx hb dX8_columns_4 rfl (lv_at hl 1 rfl) ?_
  obtain ⟨r_1, hC1, hF⟩ := ob1_e hF
  refine zVr (pc := 5) (As := [.int p1]) (rest := []) E (tX6_hasItem l D cI cZ cM cS so sca sna sla sra sn sl sfin swk p1 hC1) 1 gX8_columns_X6_hasItem rfl rfl rfl (by decide +kernel) ⟨Nat.le_of_ble_eq_true rfl, Nat.le_of_ble_eq_true rfl⟩ hK hP [3] rfl 0 6 rfl rfl rfl rfl hl.1 rfl (Nat.le_of_ble_eq_true rfl) dX8_columns_5 ⟨Nat.zero_le _, Nat.zero_le _⟩ ?_
  refine lv_if_ne (pc := 8) (tgt := 14) hx hb dX8_columns_8 (by decide) (fun hc => ?_) (fun hc => ?_)
  · have hF := oif_f hF hc
    refine lv_iload_n (pc := 14) hx hb dX8_columns_14 rfl (lv_at hl 2 rfl) ?_
    refine lv_if_lt (pc := 15) (tgt := 25) hx hb dX8_columns_15 (by decide) (fun hc => ?_) (fun hc => ?_)
    · have hF := oif_t hF hc
      refine lv_ldc (v := (-1000000002 : Int32)) (pc := 25) hx hb hown cn113 dX8_columns_25 ?_
      cases hF
      exact hRet _ _ _ _ rfl dX8_columns_27 hP hD hS
    · have hF := oif_f hF hc
      refine lv_iload_n (pc := 18) hx hb dX8_columns_18 rfl (lv_at hl 2 rfl) ?_
      refine lv_sipush (v := (256 : Int32)) (pc := 19) hx hb dX8_columns_19 (by decide) ?_
      refine lv_icmp_lt (pc := 22) (tgt := 28) hx hb dX8_columns_22 (by decide) (fun hc => ?_) (fun hc => ?_)
      · have hF := oif_t hF hc
        refine lv_aload_n (pc := 28) hx hb dX8_columns_28 rfl (lv_at hl 0 rfl) ?_
        refine va_get (pc := 29) (ci := 8) (C := RX8) (T := TX8) (N := 8) hx hb hts inX8 hown hK hP 0 rfl rfl 0 (by decide) fl10 (fun _ h9 => h9) rfl dX8_columns_29 ?_
        refine va_get (pc := 32) (ci := 6) (C := RX6) (T := TX6) (N := 8) hx hb hts inX6 hown hK hP 3 rfl rfl 4 (by decide) fl119 (fun _ h9 => h9) rfl dX8_columns_32 ?_
        refine lv_iload_n (pc := 35) hx hb dX8_columns_35 rfl (lv_at hl 1 rfl) ?_
        obtain ⟨hg2, hF⟩ := ogd_e hF
        refine va_iald (pc := 36) hx hb hK hP 4 0 rfl rfl hg2 dX8_columns_36 ?_
        refine lv_istore_n (lv' := [(3, .int (scols (Int32.toNatClampNeg p1))), (0, .ref xo), (1, .int p1), (2, .int p2)]) (pc := 37) hx hb dX8_columns_37 rfl hl (by decide) rfl (fun ls hl => ?_)
        refine lv_aload_n (pc := 38) hx hb dX8_columns_38 rfl (lv_at hl 1 rfl) ?_
        refine va_get (pc := 39) (ci := 8) (C := RX8) (T := TX8) (N := 8) hx hb hts inX8 hown hK hP 0 rfl rfl 1 (by decide) fl19 (fun _ h9 => h9) rfl dX8_columns_39 ?_
        refine lv_aload_n (pc := 42) hx hb dX8_columns_42 rfl (lv_at hl 1 rfl) ?_
        refine va_get (pc := 43) (ci := 8) (C := RX8) (T := TX8) (N := 8) hx hb hts inX8 hown hK hP 0 rfl rfl 0 (by decide) fl10 (fun _ h9 => h9) rfl dX8_columns_43 ?_
        obtain ⟨hnx_1, hct_1, rg_1, hC3, hF⟩ := ob3_e hF
        refine zVTT (T := (zRing cI ra rg)) (T1 := (zRing cI ra rg_1)) (pc := 46) (As := [.ref so]) (rest := []) (ws := [(xo, .inr (8, [.ref so, .ref ho, .ref ko, .ref ia, .ref fo, .ref wo, .ref zo, .ref dr])), (ho, .inr (2, [.ref rr, .int hnx, .int hct])), (rr, .inl (cS, 16, .inr (.inr (.inr (.inr (fun i => some (ra i).1)))))), (so, .inr (6, [.int sn, .int sl, .int sfin, .int swk, .ref sca, .ref sna, .ref sla, .ref sra])), (sca, .inl (cI, 12, .inl scols)), (sna, .inl (cI, 12, .inl snear)), (sla, .inl (cI, 36, .inl slds)), (sra, .inr (5, [.ref qs, .int qc])), (qs, .inl (cI, 12, .inl qf))]) (wc := [(ho, .inr (2, [.ref rr, .int hnx, .int hct])), (rr, .inl (cS, 16, .inr (.inr (.inr (.inr (fun i => some (ra i).1)))))), (so, .inr (6, [.int sn, .int sl, .int sfin, .int swk, .ref sca, .ref sna, .ref sla, .ref sra])), (sca, .inl (cI, 12, .inl scols)), (sna, .inl (cI, 12, .inl snear)), (sla, .inl (cI, 36, .inl slds)), (sra, .inr (5, [.ref qs, .int qc])), (qs, .inl (cI, 12, .inl qf))]) (w1 := [(ho, .inr (2, [.ref rr, .int hnx_1, .int hct_1])), (rr, .inl (cS, 16, .inr (.inr (.inr (.inr (fun i => some (ra i).1)))))), (so, .inr (6, [.int sn, .int sl, .int sfin, .int swk, .ref sca, .ref sna, .ref sla, .ref sra])), (sca, .inl (cI, 12, .inl scols)), (sna, .inl (cI, 12, .inl snear)), (sla, .inl (cI, 36, .inl slds)), (sra, .inr (5, [.ref qs, .int qc])), (qs, .inl (cI, 12, .inl qf))]) (wr := [(xo, .inr (8, [.ref so, .ref ho, .ref ko, .ref ia, .ref fo, .ref wo, .ref zo, .ref dr]))]) (w2 := [(xo, .inr (8, [.ref so, .ref ho, .ref ko, .ref ia, .ref fo, .ref wo, .ref zo, .ref dr])), (ho, .inr (2, [.ref rr, .int hnx_1, .int hct_1])), (rr, .inl (cS, 16, .inr (.inr (.inr (.inr (fun i => some (ra i).1)))))), (so, .inr (6, [.int sn, .int sl, .int sfin, .int swk, .ref sca, .ref sna, .ref sla, .ref sra])), (sca, .inl (cI, 12, .inl scols)), (sna, .inl (cI, 12, .inl snear)), (sla, .inl (cI, 36, .inl slds)), (sra, .inr (5, [.ref qs, .int qc])), (qs, .inl (cI, 12, .inl qf))]) E (tX2_remember l D cI cZ cM cS ho rr so sca sna sla sra qs ra hnx hct sn sl sfin swk scols snear slds qc qf rg hC3) 1 gX8_columns_X2_remember rfl rfl rfl (by decide +kernel) ⟨Nat.le_of_ble_eq_true rfl, Nat.le_of_ble_eq_true rfl⟩ hK hP hD hS hA 9 [1, 2, 3, 4, 5, 6, 7, 8, 0] rfl rfl (by decide) rfl rfl 0 2 rfl rfl rfl rfl hl.1 rfl (Nat.le_of_ble_eq_true rfl) dX8_columns_46 ⟨Nat.zero_le _, Nat.zero_le _⟩ (fun H locs hP hD hS => ?_)
        have hP : va_P D vwCl (wX8_columns cI cZ cM cS xo so ho ko ia fo wo zo dr rr sca sna sla sra qs ra hnx_1 hct_1 sn sl sfin swk scols snear slds qc qf rg_1) H := hP
        have hD : va_D A (wX8_columns cI cZ cM cS xo so ho ko ia fo wo zo dr rr sca sna sla sra qs ra hnx_1 hct_1 sn sl sfin swk scols snear slds qc qf rg_1) := hD
        refine W.eq (g2 := F0 m 49 ls []) rfl ?_
        refine lv_aload_n (pc := 49) hx hb dX8_columns_49 rfl (lv_at hl 1 rfl) ?_
        refine va_get (pc := 50) (ci := 8) (C := RX8) (T := TX8) (N := 8) hx hb hts inX8 hown hK hP 0 rfl rfl 0 (by decide) fl10 (fun _ h9 => h9) rfl dX8_columns_50 ?_
        refine va_get (pc := 53) (ci := 6) (C := RX6) (T := TX6) (N := 8) hx hb hts inX6 hown hK hP 3 rfl rfl 4 (by decide) fl119 (fun _ h9 => h9) rfl dX8_columns_53 ?_
        refine lv_iload_n (pc := 56) hx hb dX8_columns_56 rfl (lv_at hl 2 rfl) ?_
        refine lv_iload_n (pc := 57) hx hb dX8_columns_57 rfl (lv_at hl 3 rfl) ?_
        obtain ⟨hg4, hF⟩ := ogd_e hF
        refine va_iast (pc := 58) hx hb hK hP hD hS 4 0 rfl rfl hg4 dX8_columns_58 (fun H locs hP hD hS => ?_)
        have hP : va_P D vwCl (wX8_columns cI cZ cM cS xo so ho ko ia fo wo zo dr rr sca sna sla sra qs ra hnx_1 hct_1 sn sl sfin swk (upd scols (Int32.toNatClampNeg p1) p2) snear slds qc qf rg_1) H := hP
        have hD : va_D A (wX8_columns cI cZ cM cS xo so ho ko ia fo wo zo dr rr sca sna sla sra qs ra hnx_1 hct_1 sn sl sfin swk (upd scols (Int32.toNatClampNeg p1) p2) snear slds qc qf rg_1) := hD
        refine lv_iload_n (pc := 59) hx hb dX8_columns_59 rfl (lv_at hl 0 rfl) ?_
        cases hF
        exact hRet _ _ _ _ rfl dX8_columns_60 hP hD hS
      · have hF := oif_f hF hc
        refine lv_ldc (v := (-1000000002 : Int32)) (pc := 25) hx hb hown cn113 dX8_columns_25 ?_
        cases hF
        exact hRet _ _ _ _ rfl dX8_columns_27 hP hD hS
  · have hF := oif_t hF hc
    refine lv_ldc (v := (-1000000001 : Int32)) (pc := 11) hx hb hown cn118 dX8_columns_11 ?_
    cases hF
    exact hRet _ _ _ _ rfl dX8_columns_13 hP hD hS
def fX8_letters (p1 : Int32) (hnx : Int32) (hct : Int32) (sn : Int32) (sl : Int32) (sfin : Int32) (swk : Int32) (scols : (Nat → Int32)) (snear : (Nat → Int32)) (slds : (Nat → Int32)) (qc : Int32) (qf : (Nat → Int32)) (rg : (Nat → zSV)) : Option (Int32 × Int32 × Int32 × Int32 × (Nat → Int32) × (Nat → zSV)) := (if p1 < (1 : Int32) then (some ((-1000000002 : Int32), hnx, hct, sl, slds, rg)) else (if p1 ≤ (3 : Int32) then (ob3 (fX2_remember hnx hct sn sl sfin swk scols snear slds qc qf rg) (fun hnx_1 hct_1 rg_1 => (ob2 (fX6_takeLetters p1 sn sl sfin swk slds) (fun sl_1 slds_1 => (some (sl, hnx_1, hct_1, sl_1, slds_1, rg_1)))))) else (some ((-1000000002 : Int32), hnx, hct, sl, slds, rg))))
abbrev wX8_letters (cI cZ cM cS : ClassId) (xo so ho ko ia fo wo zo dr rr sca sna sla sra qs : Nat) (ra : Nat → zSA) (hnx : Int32) (hct : Int32) (sn : Int32) (sl : Int32) (sfin : Int32) (swk : Int32) (scols : (Nat → Int32)) (snear : (Nat → Int32)) (slds : (Nat → Int32)) (qc : Int32) (qf : (Nat → Int32)) (rg : (Nat → zSV)) : va_W := [(xo, .inr (8, [.ref so, .ref ho, .ref ko, .ref ia, .ref fo, .ref wo, .ref zo, .ref dr])), (ho, .inr (2, [.ref rr, .int hnx, .int hct])), (rr, .inl (cS, 16, .inr (.inr (.inr (.inr (fun i => some (ra i).1)))))), (so, .inr (6, [.int sn, .int sl, .int sfin, .int swk, .ref sca, .ref sna, .ref sla, .ref sra])), (sca, .inl (cI, 12, .inl scols)), (sna, .inl (cI, 12, .inl snear)), (sla, .inl (cI, 36, .inl slds)), (sra, .inr (5, [.ref qs, .int qc])), (qs, .inl (cI, 12, .inl qf))] ++ (zRing cI ra rg)
set_option maxHeartbeats 4000000 in
set_option maxRecDepth 100000 in
theorem tX8_letters (l : Launch) (D : va_G) (cI cZ cM cS : ClassId) (xo so ho ko ia fo wo zo dr rr sca sna sla sra qs : Nat) (ra : Nat → zSA) (hnx : Int32) (hct : Int32) (sn : Int32) (sl : Int32) (sfin : Int32) (swk : Int32) (scols : (Nat → Int32)) (snear : (Nat → Int32)) (slds : (Nat → Int32)) (qc : Int32) (qf : (Nat → Int32)) (rg : (Nat → zSV)) (p1 : Int32) {r : Int32} {hnx' : Int32} {hct' : Int32} {sl' : Int32} {slds' : (Nat → Int32)} {rg' : (Nat → zSV)} (hF : fX8_letters p1 hnx hct sn sl sfin swk scols snear slds qc qf rg = some (r, hnx', hct', sl', slds', rg')) : zCW l yX8_letters wsX8_letters (zRm 4 111) D (zTy cI cZ cM cS) [.ref xo, .int p1] (wX8_letters cI cZ cM cS xo so ho ko ia fo wo zo dr rr sca sna sla sra qs ra hnx hct sn sl sfin swk scols snear slds qc qf rg) (wX8_letters cI cZ cM cS xo so ho ko ia fo wo zo dr rr sca sna sla sra qs ra hnx' hct' sn sl' sfin swk scols snear slds' qc qf rg') (some (.int r)) := by
  unfold fX8_letters at hF
  refine zCW_ofi (cc := cX8_letters) (maxL := 3) (own := RX8) (by decide) rfl rfl (Nat.le_of_ble_eq_true rfl) (fun p e s m args below meth c Q ls A E hA hK hP hD hRet hS hl => ?_)
  refine zgen (fun H locs hP hS => ?_) hP hS
  have hl : lv_has ls 3 [(0, .ref xo), (1, .int p1)] := hl
  obtain ⟨hx, hb, hml, hown, hts⟩ := id E
  have inX6 : ∀ w ∈ u_ws RX6 TX6 8, w ∈ wsX8_letters := by decide +kernel
  have inX8 : ∀ w ∈ u_ws RX8 TX8 8, w ∈ wsX8_letters := by decide +kernel
  have fl10 := hts (.fieldLink RX8 10 "SplitClasses" "now" "LSplitClasses$State;") (by decide +kernel)
  have fl19 := hts (.fieldLink RX8 19 "SplitClasses" "history" "LSplitClasses$History;") (by decide +kernel)
  have fl82 := hts (.fieldLink RX8 82 "SplitClasses$State" "letterCount" "I") (by decide +kernel)
  have cn113 := hts (.constant RX8 113 (-1000000002)) (by decide +kernel)
  refine lv_iload_n (pc := 0) hx hb dX8_letters_0 rfl (lv_at hl 1 rfl) ?_
  refine lv_iconst (v := (1 : Int32)) (pc := 1) hx hb dX8_letters_1 (by decide) ?_
  refine lv_icmp_lt (pc := 2) (tgt := 10) hx hb dX8_letters_2 (by decide) (fun hc => ?_) (fun hc => ?_)
  · have hF := oif_t hF hc
    refine lv_ldc (v := (-1000000002 : Int32)) (pc := 10) hx hb hown cn113 dX8_letters_10 ?_
    cases hF
    exact hRet _ _ _ _ rfl dX8_letters_12 hP hD hS
  · have hF := oif_f hF hc
    refine lv_iload_n (pc := 5) hx hb dX8_letters_5 rfl (lv_at hl 1 rfl) ?_
    refine lv_iconst (v := (3 : Int32)) (pc := 6) hx hb dX8_letters_6 (by decide) ?_
    refine lv_icmp_le (pc := 7) (tgt := 13) hx hb dX8_letters_7 (by decide) (fun hc => ?_) (fun hc => ?_)
    · have hF := oif_t hF hc
      refine lv_aload_n (pc := 13) hx hb dX8_letters_13 rfl (lv_at hl 0 rfl) ?_
      refine va_get (pc := 14) (ci := 8) (C := RX8) (T := TX8) (N := 8) hx hb hts inX8 hown hK hP 0 rfl rfl 0 (by decide) fl10 (fun _ h9 => h9) rfl dX8_letters_14 ?_
      refine va_get (pc := 17) (ci := 6) (C := RX6) (T := TX6) (N := 8) hx hb hts inX6 hown hK hP 3 rfl rfl 1 (by decide) fl82 (fun _ h9 => h9) rfl dX8_letters_17 ?_
      refine lv_istore_n (lv' := [(2, .int sl), (0, .ref xo), (1, .int p1)]) (pc := 20) hx hb dX8_letters_20 rfl hl (by decide) rfl (fun ls hl => ?_)
      refine lv_aload_n (pc := 21) hx hb dX8_letters_21 rfl (lv_at hl 1 rfl) ?_
      refine va_get (pc := 22) (ci := 8) (C := RX8) (T := TX8) (N := 8) hx hb hts inX8 hown hK hP 0 rfl rfl 1 (by decide) fl19 (fun _ h9 => h9) rfl dX8_letters_22 ?_
      refine lv_aload_n (pc := 25) hx hb dX8_letters_25 rfl (lv_at hl 1 rfl) ?_
      refine va_get (pc := 26) (ci := 8) (C := RX8) (T := TX8) (N := 8) hx hb hts inX8 hown hK hP 0 rfl rfl 0 (by decide) fl10 (fun _ h9 => h9) rfl dX8_letters_26 ?_
      obtain ⟨hnx_1, hct_1, rg_1, hC1, hF⟩ := ob3_e hF
      refine zVTT (T := (zRing cI ra rg)) (T1 := (zRing cI ra rg_1)) (pc := 29) (As := [.ref so]) (rest := []) (ws := [(xo, .inr (8, [.ref so, .ref ho, .ref ko, .ref ia, .ref fo, .ref wo, .ref zo, .ref dr])), (ho, .inr (2, [.ref rr, .int hnx, .int hct])), (rr, .inl (cS, 16, .inr (.inr (.inr (.inr (fun i => some (ra i).1)))))), (so, .inr (6, [.int sn, .int sl, .int sfin, .int swk, .ref sca, .ref sna, .ref sla, .ref sra])), (sca, .inl (cI, 12, .inl scols)), (sna, .inl (cI, 12, .inl snear)), (sla, .inl (cI, 36, .inl slds)), (sra, .inr (5, [.ref qs, .int qc])), (qs, .inl (cI, 12, .inl qf))]) (wc := [(ho, .inr (2, [.ref rr, .int hnx, .int hct])), (rr, .inl (cS, 16, .inr (.inr (.inr (.inr (fun i => some (ra i).1)))))), (so, .inr (6, [.int sn, .int sl, .int sfin, .int swk, .ref sca, .ref sna, .ref sla, .ref sra])), (sca, .inl (cI, 12, .inl scols)), (sna, .inl (cI, 12, .inl snear)), (sla, .inl (cI, 36, .inl slds)), (sra, .inr (5, [.ref qs, .int qc])), (qs, .inl (cI, 12, .inl qf))]) (w1 := [(ho, .inr (2, [.ref rr, .int hnx_1, .int hct_1])), (rr, .inl (cS, 16, .inr (.inr (.inr (.inr (fun i => some (ra i).1)))))), (so, .inr (6, [.int sn, .int sl, .int sfin, .int swk, .ref sca, .ref sna, .ref sla, .ref sra])), (sca, .inl (cI, 12, .inl scols)), (sna, .inl (cI, 12, .inl snear)), (sla, .inl (cI, 36, .inl slds)), (sra, .inr (5, [.ref qs, .int qc])), (qs, .inl (cI, 12, .inl qf))]) (wr := [(xo, .inr (8, [.ref so, .ref ho, .ref ko, .ref ia, .ref fo, .ref wo, .ref zo, .ref dr]))]) (w2 := [(xo, .inr (8, [.ref so, .ref ho, .ref ko, .ref ia, .ref fo, .ref wo, .ref zo, .ref dr])), (ho, .inr (2, [.ref rr, .int hnx_1, .int hct_1])), (rr, .inl (cS, 16, .inr (.inr (.inr (.inr (fun i => some (ra i).1)))))), (so, .inr (6, [.int sn, .int sl, .int sfin, .int swk, .ref sca, .ref sna, .ref sla, .ref sra])), (sca, .inl (cI, 12, .inl scols)), (sna, .inl (cI, 12, .inl snear)), (sla, .inl (cI, 36, .inl slds)), (sra, .inr (5, [.ref qs, .int qc])), (qs, .inl (cI, 12, .inl qf))]) E (tX2_remember l D cI cZ cM cS ho rr so sca sna sla sra qs ra hnx hct sn sl sfin swk scols snear slds qc qf rg hC1) 1 gX8_letters_X2_remember rfl rfl rfl (by decide +kernel) ⟨Nat.le_of_ble_eq_true rfl, Nat.le_of_ble_eq_true rfl⟩ hK hP hD hS hA 9 [1, 2, 3, 4, 5, 6, 7, 8, 0] rfl rfl (by decide) rfl rfl 0 2 rfl rfl rfl rfl hl.1 rfl (Nat.le_of_ble_eq_true rfl) dX8_letters_29 ⟨Nat.zero_le _, Nat.zero_le _⟩ (fun H locs hP hD hS => ?_)
      have hP : va_P D vwCl (wX8_letters cI cZ cM cS xo so ho ko ia fo wo zo dr rr sca sna sla sra qs ra hnx_1 hct_1 sn sl sfin swk scols snear slds qc qf rg_1) H := hP
      have hD : va_D A (wX8_letters cI cZ cM cS xo so ho ko ia fo wo zo dr rr sca sna sla sra qs ra hnx_1 hct_1 sn sl sfin swk scols snear slds qc qf rg_1) := hD
      refine W.eq (g2 := F0 m 32 ls []) rfl ?_
      refine lv_aload_n (pc := 32) hx hb dX8_letters_32 rfl (lv_at hl 1 rfl) ?_
      refine va_get (pc := 33) (ci := 8) (C := RX8) (T := TX8) (N := 8) hx hb hts inX8 hown hK hP 0 rfl rfl 0 (by decide) fl10 (fun _ h9 => h9) rfl dX8_letters_33 ?_
      refine lv_iload_n (pc := 36) hx hb dX8_letters_36 rfl (lv_at hl 2 rfl) ?_
      obtain ⟨sl_1, slds_1, hC2, hF⟩ := ob2_e hF
      refine zVT (T := (zRing cI ra rg_1)) (pc := 37) (As := [.int p1]) (rest := []) (ws := [(xo, .inr (8, [.ref so, .ref ho, .ref ko, .ref ia, .ref fo, .ref wo, .ref zo, .ref dr])), (ho, .inr (2, [.ref rr, .int hnx_1, .int hct_1])), (rr, .inl (cS, 16, .inr (.inr (.inr (.inr (fun i => some (ra i).1)))))), (so, .inr (6, [.int sn, .int sl, .int sfin, .int swk, .ref sca, .ref sna, .ref sla, .ref sra])), (sca, .inl (cI, 12, .inl scols)), (sna, .inl (cI, 12, .inl snear)), (sla, .inl (cI, 36, .inl slds)), (sra, .inr (5, [.ref qs, .int qc])), (qs, .inl (cI, 12, .inl qf))]) (wc := [(so, .inr (6, [.int sn, .int sl, .int sfin, .int swk, .ref sca, .ref sna, .ref sla, .ref sra])), (sla, .inl (cI, 36, .inl slds))]) (w1 := [(so, .inr (6, [.int sn, .int sl_1, .int sfin, .int swk, .ref sca, .ref sna, .ref sla, .ref sra])), (sla, .inl (cI, 36, .inl slds_1))]) (wr := [(xo, .inr (8, [.ref so, .ref ho, .ref ko, .ref ia, .ref fo, .ref wo, .ref zo, .ref dr])), (ho, .inr (2, [.ref rr, .int hnx_1, .int hct_1])), (rr, .inl (cS, 16, .inr (.inr (.inr (.inr (fun i => some (ra i).1)))))), (sca, .inl (cI, 12, .inl scols)), (sna, .inl (cI, 12, .inl snear)), (sra, .inr (5, [.ref qs, .int qc])), (qs, .inl (cI, 12, .inl qf))]) (w2 := [(xo, .inr (8, [.ref so, .ref ho, .ref ko, .ref ia, .ref fo, .ref wo, .ref zo, .ref dr])), (ho, .inr (2, [.ref rr, .int hnx_1, .int hct_1])), (rr, .inl (cS, 16, .inr (.inr (.inr (.inr (fun i => some (ra i).1)))))), (so, .inr (6, [.int sn, .int sl_1, .int sfin, .int swk, .ref sca, .ref sna, .ref sla, .ref sra])), (sca, .inl (cI, 12, .inl scols)), (sna, .inl (cI, 12, .inl snear)), (sla, .inl (cI, 36, .inl slds_1)), (sra, .inr (5, [.ref qs, .int qc])), (qs, .inl (cI, 12, .inl qf))]) E (tX6_takeLetters l D cI cZ cM cS so sca sna sla sra sn sl sfin swk slds p1 hC2) 1 gX8_letters_X6_takeLetters rfl rfl rfl (by decide +kernel) ⟨Nat.le_of_ble_eq_true rfl, Nat.le_of_ble_eq_true rfl⟩ hK hP hD hS hA 9 [3, 6, 0, 1, 2, 4, 5, 7, 8] rfl rfl (by decide) rfl rfl 0 6 rfl rfl rfl rfl hl.1 rfl (Nat.le_of_ble_eq_true rfl) dX8_letters_37 ⟨Nat.zero_le _, Nat.zero_le _⟩ (fun H locs hP hD hS => ?_)
      have hP : va_P D vwCl (wX8_letters cI cZ cM cS xo so ho ko ia fo wo zo dr rr sca sna sla sra qs ra hnx_1 hct_1 sn sl_1 sfin swk scols snear slds_1 qc qf rg_1) H := hP
      have hD : va_D A (wX8_letters cI cZ cM cS xo so ho ko ia fo wo zo dr rr sca sna sla sra qs ra hnx_1 hct_1 sn sl_1 sfin swk scols snear slds_1 qc qf rg_1) := hD
      refine W.eq (g2 := F0 m 40 ls []) rfl ?_
      refine lv_iload_n (pc := 40) hx hb dX8_letters_40 rfl (lv_at hl 0 rfl) ?_
      cases hF
      exact hRet _ _ _ _ rfl dX8_letters_41 hP hD hS
    · have hF := oif_f hF hc
      refine lv_ldc (v := (-1000000002 : Int32)) (pc := 10) hx hb hown cn113 dX8_letters_10 ?_
      cases hF
      exact hRet _ _ _ _ rfl dX8_letters_12 hP hD hS
def fX8_goes (p1 : Int32) (p2 : Int32) (p3 : Int32) (hnx : Int32) (hct : Int32) (sn : Int32) (sl : Int32) (sfin : Int32) (swk : Int32) (scols : (Nat → Int32)) (snear : (Nat → Int32)) (slds : (Nat → Int32)) (qc : Int32) (qf : (Nat → Int32)) (rg : (Nat → zSV)) : Option (Int32 × Int32 × Int32 × (Nat → Int32) × (Nat → zSV)) := (ob1 (fX6_hasItem p1 sn sl sfin swk) (fun r_1 => (if r_1 = (0 : Int32) then (some ((-1000000001 : Int32), hnx, hct, slds, rg)) else (ob1 (fX6_hasLetter p2 sn sl sfin swk) (fun r_2 => (if r_2 = (0 : Int32) then (some ((-1000000001 : Int32), hnx, hct, slds, rg)) else (ob1 (fX6_hasItem p3 sn sl sfin swk) (fun r_3 => (if r_3 = (0 : Int32) then (some ((-1000000001 : Int32), hnx, hct, slds, rg)) else (ob1 (fX6_leadsTo p1 p2 sn sl sfin swk slds) (fun r_4 => (ob3 (fX2_remember hnx hct sn sl sfin swk scols snear slds qc qf rg) (fun hnx_1 hct_1 rg_1 => (ob1 (fX6_lead p1 p2 p3 sn sl sfin swk slds) (fun slds_1 => (some (r_4, hnx_1, hct_1, slds_1, rg_1)))))))))))))))))
abbrev wX8_goes (cI cZ cM cS : ClassId) (xo so ho ko ia fo wo zo dr rr sca sna sla sra qs : Nat) (ra : Nat → zSA) (hnx : Int32) (hct : Int32) (sn : Int32) (sl : Int32) (sfin : Int32) (swk : Int32) (scols : (Nat → Int32)) (snear : (Nat → Int32)) (slds : (Nat → Int32)) (qc : Int32) (qf : (Nat → Int32)) (rg : (Nat → zSV)) : va_W := [(xo, .inr (8, [.ref so, .ref ho, .ref ko, .ref ia, .ref fo, .ref wo, .ref zo, .ref dr])), (ho, .inr (2, [.ref rr, .int hnx, .int hct])), (rr, .inl (cS, 16, .inr (.inr (.inr (.inr (fun i => some (ra i).1)))))), (so, .inr (6, [.int sn, .int sl, .int sfin, .int swk, .ref sca, .ref sna, .ref sla, .ref sra])), (sca, .inl (cI, 12, .inl scols)), (sna, .inl (cI, 12, .inl snear)), (sla, .inl (cI, 36, .inl slds)), (sra, .inr (5, [.ref qs, .int qc])), (qs, .inl (cI, 12, .inl qf))] ++ (zRing cI ra rg)
set_option maxHeartbeats 4000000 in
set_option maxRecDepth 100000 in
theorem tX8_goes (l : Launch) (D : va_G) (cI cZ cM cS : ClassId) (xo so ho ko ia fo wo zo dr rr sca sna sla sra qs : Nat) (ra : Nat → zSA) (hnx : Int32) (hct : Int32) (sn : Int32) (sl : Int32) (sfin : Int32) (swk : Int32) (scols : (Nat → Int32)) (snear : (Nat → Int32)) (slds : (Nat → Int32)) (qc : Int32) (qf : (Nat → Int32)) (rg : (Nat → zSV)) (p1 : Int32) (p2 : Int32) (p3 : Int32) {r : Int32} {hnx' : Int32} {hct' : Int32} {slds' : (Nat → Int32)} {rg' : (Nat → zSV)} (hF : fX8_goes p1 p2 p3 hnx hct sn sl sfin swk scols snear slds qc qf rg = some (r, hnx', hct', slds', rg')) : zCW l yX8_goes wsX8_goes (zRm 4 111) D (zTy cI cZ cM cS) [.ref xo, .int p1, .int p2, .int p3] (wX8_goes cI cZ cM cS xo so ho ko ia fo wo zo dr rr sca sna sla sra qs ra hnx hct sn sl sfin swk scols snear slds qc qf rg) (wX8_goes cI cZ cM cS xo so ho ko ia fo wo zo dr rr sca sna sla sra qs ra hnx' hct' sn sl sfin swk scols snear slds' qc qf rg') (some (.int r)) := by
  unfold fX8_goes at hF
  refine zCW_ofi (cc := cX8_goes) (maxL := 5) (own := RX8) (by decide) rfl rfl (Nat.le_of_ble_eq_true rfl) (fun p e s m args below meth c Q ls A E hA hK hP hD hRet hS hl => ?_)
  refine zgen (fun H locs hP hS => ?_) hP hS
  have hl : lv_has ls 5 [(0, .ref xo), (1, .int p1), (2, .int p2), (3, .int p3)] := hl
  obtain ⟨hx, hb, hml, hown, hts⟩ := id E
  have inX8 : ∀ w ∈ u_ws RX8 TX8 8, w ∈ wsX8_goes := by decide +kernel
  have fl10 := hts (.fieldLink RX8 10 "SplitClasses" "now" "LSplitClasses$State;") (by decide +kernel)
  have fl19 := hts (.fieldLink RX8 19 "SplitClasses" "history" "LSplitClasses$History;") (by decide +kernel)
  have cn118 := hts (.constant RX8 118 (-1000000001)) (by decide +kernel)
  refine lv_aload_n (pc := 0) hx hb dX8_goes_0 rfl (lv_at hl 0 rfl) ?_
  refine va_get (pc := 1) (ci := 8) (C := RX8) (T := TX8) (N := 8) hx hb hts inX8 hown hK hP 0 rfl rfl 0 (by decide) fl10 (fun _ h9 => h9) rfl dX8_goes_1 ?_
  refine lv_iload_n (pc := 4) hx hb dX8_goes_4 rfl (lv_at hl 1 rfl) ?_
  obtain ⟨r_1, hC1, hF⟩ := ob1_e hF
  refine zVr (pc := 5) (As := [.int p1]) (rest := []) E (tX6_hasItem l D cI cZ cM cS so sca sna sla sra sn sl sfin swk p1 hC1) 1 gX8_goes_X6_hasItem rfl rfl rfl (by decide +kernel) ⟨Nat.le_of_ble_eq_true rfl, Nat.le_of_ble_eq_true rfl⟩ hK hP [3] rfl 0 6 rfl rfl rfl rfl hl.1 rfl (Nat.le_of_ble_eq_true rfl) dX8_goes_5 ⟨Nat.zero_le _, Nat.zero_le _⟩ ?_
  refine lv_if_eq (pc := 8) (tgt := 33) hx hb dX8_goes_8 (by decide) (fun hc => ?_) (fun hc => ?_)
  · have hF := oif_t hF hc
    refine lv_ldc (v := (-1000000001 : Int32)) (pc := 33) hx hb hown cn118 dX8_goes_33 ?_
    cases hF
    exact hRet _ _ _ _ rfl dX8_goes_35 hP hD hS
  · have hF := oif_f hF hc
    refine lv_aload_n (pc := 11) hx hb dX8_goes_11 rfl (lv_at hl 0 rfl) ?_
    refine va_get (pc := 12) (ci := 8) (C := RX8) (T := TX8) (N := 8) hx hb hts inX8 hown hK hP 0 rfl rfl 0 (by decide) fl10 (fun _ h9 => h9) rfl dX8_goes_12 ?_
    refine lv_iload_n (pc := 15) hx hb dX8_goes_15 rfl (lv_at hl 2 rfl) ?_
    obtain ⟨r_2, hC2, hF⟩ := ob1_e hF
    refine zVr (pc := 16) (As := [.int p2]) (rest := []) E (tX6_hasLetter l D cI cZ cM cS so sca sna sla sra sn sl sfin swk p2 hC2) 1 gX8_goes_X6_hasLetter rfl rfl rfl (by decide +kernel) ⟨Nat.le_of_ble_eq_true rfl, Nat.le_of_ble_eq_true rfl⟩ hK hP [3] rfl 0 6 rfl rfl rfl rfl hl.1 rfl (Nat.le_of_ble_eq_true rfl) dX8_goes_16 ⟨Nat.zero_le _, Nat.zero_le _⟩ ?_
    refine lv_if_eq (pc := 19) (tgt := 33) hx hb dX8_goes_19 (by decide) (fun hc => ?_) (fun hc => ?_)
    · have hF := oif_t hF hc
      refine lv_ldc (v := (-1000000001 : Int32)) (pc := 33) hx hb hown cn118 dX8_goes_33 ?_
      cases hF
      exact hRet _ _ _ _ rfl dX8_goes_35 hP hD hS
    · have hF := oif_f hF hc
      refine lv_aload_n (pc := 22) hx hb dX8_goes_22 rfl (lv_at hl 0 rfl) ?_
      refine va_get (pc := 23) (ci := 8) (C := RX8) (T := TX8) (N := 8) hx hb hts inX8 hown hK hP 0 rfl rfl 0 (by decide) fl10 (fun _ h9 => h9) rfl dX8_goes_23 ?_
      refine lv_iload_n (pc := 26) hx hb dX8_goes_26 rfl (lv_at hl 3 rfl) ?_
      obtain ⟨r_3, hC3, hF⟩ := ob1_e hF
      refine zVr (pc := 27) (As := [.int p3]) (rest := []) E (tX6_hasItem l D cI cZ cM cS so sca sna sla sra sn sl sfin swk p3 hC3) 1 gX8_goes_X6_hasItem rfl rfl rfl (by decide +kernel) ⟨Nat.le_of_ble_eq_true rfl, Nat.le_of_ble_eq_true rfl⟩ hK hP [3] rfl 0 6 rfl rfl rfl rfl hl.1 rfl (Nat.le_of_ble_eq_true rfl) dX8_goes_27 ⟨Nat.zero_le _, Nat.zero_le _⟩ ?_
      refine lv_if_ne (pc := 30) (tgt := 36) hx hb dX8_goes_30 (by decide) (fun hc => ?_) (fun hc => ?_)
      · have hF := oif_f hF hc
        refine lv_aload_n (pc := 36) hx hb dX8_goes_36 rfl (lv_at hl 0 rfl) ?_
        refine va_get (pc := 37) (ci := 8) (C := RX8) (T := TX8) (N := 8) hx hb hts inX8 hown hK hP 0 rfl rfl 0 (by decide) fl10 (fun _ h9 => h9) rfl dX8_goes_37 ?_
        refine lv_iload_n (pc := 40) hx hb dX8_goes_40 rfl (lv_at hl 1 rfl) ?_
        refine lv_iload_n (pc := 41) hx hb dX8_goes_41 rfl (lv_at hl 2 rfl) ?_
        obtain ⟨r_4, hC4, hF⟩ := ob1_e hF
        refine zVr (pc := 42) (As := [.int p1, .int p2]) (rest := []) E (tX6_leadsTo l D cI cZ cM cS so sca sna sla sra sn sl sfin swk slds p1 p2 hC4) 2 gX8_goes_X6_leadsTo rfl rfl rfl (by decide +kernel) ⟨Nat.le_of_ble_eq_true rfl, Nat.le_of_ble_eq_true rfl⟩ hK hP [3, 6] rfl 0 6 rfl rfl rfl rfl hl.1 rfl (Nat.le_of_ble_eq_true rfl) dX8_goes_42 ⟨Nat.zero_le _, Nat.zero_le _⟩ ?_
        refine lv_istore (lv' := [(4, .int r_4), (0, .ref xo), (1, .int p1), (2, .int p2), (3, .int p3)]) (pc := 45) hx hb dX8_goes_45 hl (by decide) rfl (fun ls hl => ?_)
        refine lv_aload_n (pc := 47) hx hb dX8_goes_47 rfl (lv_at hl 1 rfl) ?_
        refine va_get (pc := 48) (ci := 8) (C := RX8) (T := TX8) (N := 8) hx hb hts inX8 hown hK hP 0 rfl rfl 1 (by decide) fl19 (fun _ h9 => h9) rfl dX8_goes_48 ?_
        refine lv_aload_n (pc := 51) hx hb dX8_goes_51 rfl (lv_at hl 1 rfl) ?_
        refine va_get (pc := 52) (ci := 8) (C := RX8) (T := TX8) (N := 8) hx hb hts inX8 hown hK hP 0 rfl rfl 0 (by decide) fl10 (fun _ h9 => h9) rfl dX8_goes_52 ?_
        obtain ⟨hnx_1, hct_1, rg_1, hC5, hF⟩ := ob3_e hF
        refine zVTT (T := (zRing cI ra rg)) (T1 := (zRing cI ra rg_1)) (pc := 55) (As := [.ref so]) (rest := []) (ws := [(xo, .inr (8, [.ref so, .ref ho, .ref ko, .ref ia, .ref fo, .ref wo, .ref zo, .ref dr])), (ho, .inr (2, [.ref rr, .int hnx, .int hct])), (rr, .inl (cS, 16, .inr (.inr (.inr (.inr (fun i => some (ra i).1)))))), (so, .inr (6, [.int sn, .int sl, .int sfin, .int swk, .ref sca, .ref sna, .ref sla, .ref sra])), (sca, .inl (cI, 12, .inl scols)), (sna, .inl (cI, 12, .inl snear)), (sla, .inl (cI, 36, .inl slds)), (sra, .inr (5, [.ref qs, .int qc])), (qs, .inl (cI, 12, .inl qf))]) (wc := [(ho, .inr (2, [.ref rr, .int hnx, .int hct])), (rr, .inl (cS, 16, .inr (.inr (.inr (.inr (fun i => some (ra i).1)))))), (so, .inr (6, [.int sn, .int sl, .int sfin, .int swk, .ref sca, .ref sna, .ref sla, .ref sra])), (sca, .inl (cI, 12, .inl scols)), (sna, .inl (cI, 12, .inl snear)), (sla, .inl (cI, 36, .inl slds)), (sra, .inr (5, [.ref qs, .int qc])), (qs, .inl (cI, 12, .inl qf))]) (w1 := [(ho, .inr (2, [.ref rr, .int hnx_1, .int hct_1])), (rr, .inl (cS, 16, .inr (.inr (.inr (.inr (fun i => some (ra i).1)))))), (so, .inr (6, [.int sn, .int sl, .int sfin, .int swk, .ref sca, .ref sna, .ref sla, .ref sra])), (sca, .inl (cI, 12, .inl scols)), (sna, .inl (cI, 12, .inl snear)), (sla, .inl (cI, 36, .inl slds)), (sra, .inr (5, [.ref qs, .int qc])), (qs, .inl (cI, 12, .inl qf))]) (wr := [(xo, .inr (8, [.ref so, .ref ho, .ref ko, .ref ia, .ref fo, .ref wo, .ref zo, .ref dr]))]) (w2 := [(xo, .inr (8, [.ref so, .ref ho, .ref ko, .ref ia, .ref fo, .ref wo, .ref zo, .ref dr])), (ho, .inr (2, [.ref rr, .int hnx_1, .int hct_1])), (rr, .inl (cS, 16, .inr (.inr (.inr (.inr (fun i => some (ra i).1)))))), (so, .inr (6, [.int sn, .int sl, .int sfin, .int swk, .ref sca, .ref sna, .ref sla, .ref sra])), (sca, .inl (cI, 12, .inl scols)), (sna, .inl (cI, 12, .inl snear)), (sla, .inl (cI, 36, .inl slds)), (sra, .inr (5, [.ref qs, .int qc])), (qs, .inl (cI, 12, .inl qf))]) E (tX2_remember l D cI cZ cM cS ho rr so sca sna sla sra qs ra hnx hct sn sl sfin swk scols snear slds qc qf rg hC5) 1 gX8_goes_X2_remember rfl rfl rfl (by decide +kernel) ⟨Nat.le_of_ble_eq_true rfl, Nat.le_of_ble_eq_true rfl⟩ hK hP hD hS hA 9 [1, 2, 3, 4, 5, 6, 7, 8, 0] rfl rfl (by decide) rfl rfl 0 2 rfl rfl rfl rfl hl.1 rfl (Nat.le_of_ble_eq_true rfl) dX8_goes_55 ⟨Nat.zero_le _, Nat.zero_le _⟩ (fun H locs hP hD hS => ?_)
        have hP : va_P D vwCl (wX8_goes cI cZ cM cS xo so ho ko ia fo wo zo dr rr sca sna sla sra qs ra hnx_1 hct_1 sn sl sfin swk scols snear slds qc qf rg_1) H := hP
        have hD : va_D A (wX8_goes cI cZ cM cS xo so ho ko ia fo wo zo dr rr sca sna sla sra qs ra hnx_1 hct_1 sn sl sfin swk scols snear slds qc qf rg_1) := hD
        refine W.eq (g2 := F0 m 58 ls []) rfl ?_
        refine lv_aload_n (pc := 58) hx hb dX8_goes_58 rfl (lv_at hl 1 rfl) ?_
        refine va_get (pc := 59) (ci := 8) (C := RX8) (T := TX8) (N := 8) hx hb hts inX8 hown hK hP 0 rfl rfl 0 (by decide) fl10 (fun _ h9 => h9) rfl dX8_goes_59 ?_
        refine lv_iload_n (pc := 62) hx hb dX8_goes_62 rfl (lv_at hl 2 rfl) ?_
        refine lv_iload_n (pc := 63) hx hb dX8_goes_63 rfl (lv_at hl 3 rfl) ?_
        refine lv_iload_n (pc := 64) hx hb dX8_goes_64 rfl (lv_at hl 4 rfl) ?_
        obtain ⟨slds_1, hC6, hF⟩ := ob1_e hF
        refine zVT (T := (zRing cI ra rg_1)) (pc := 65) (As := [.int p1, .int p2, .int p3]) (rest := []) (ws := [(xo, .inr (8, [.ref so, .ref ho, .ref ko, .ref ia, .ref fo, .ref wo, .ref zo, .ref dr])), (ho, .inr (2, [.ref rr, .int hnx_1, .int hct_1])), (rr, .inl (cS, 16, .inr (.inr (.inr (.inr (fun i => some (ra i).1)))))), (so, .inr (6, [.int sn, .int sl, .int sfin, .int swk, .ref sca, .ref sna, .ref sla, .ref sra])), (sca, .inl (cI, 12, .inl scols)), (sna, .inl (cI, 12, .inl snear)), (sla, .inl (cI, 36, .inl slds)), (sra, .inr (5, [.ref qs, .int qc])), (qs, .inl (cI, 12, .inl qf))]) (wc := [(so, .inr (6, [.int sn, .int sl, .int sfin, .int swk, .ref sca, .ref sna, .ref sla, .ref sra])), (sla, .inl (cI, 36, .inl slds))]) (w1 := [(so, .inr (6, [.int sn, .int sl, .int sfin, .int swk, .ref sca, .ref sna, .ref sla, .ref sra])), (sla, .inl (cI, 36, .inl slds_1))]) (wr := [(xo, .inr (8, [.ref so, .ref ho, .ref ko, .ref ia, .ref fo, .ref wo, .ref zo, .ref dr])), (ho, .inr (2, [.ref rr, .int hnx_1, .int hct_1])), (rr, .inl (cS, 16, .inr (.inr (.inr (.inr (fun i => some (ra i).1)))))), (sca, .inl (cI, 12, .inl scols)), (sna, .inl (cI, 12, .inl snear)), (sra, .inr (5, [.ref qs, .int qc])), (qs, .inl (cI, 12, .inl qf))]) (w2 := [(xo, .inr (8, [.ref so, .ref ho, .ref ko, .ref ia, .ref fo, .ref wo, .ref zo, .ref dr])), (ho, .inr (2, [.ref rr, .int hnx_1, .int hct_1])), (rr, .inl (cS, 16, .inr (.inr (.inr (.inr (fun i => some (ra i).1)))))), (so, .inr (6, [.int sn, .int sl, .int sfin, .int swk, .ref sca, .ref sna, .ref sla, .ref sra])), (sca, .inl (cI, 12, .inl scols)), (sna, .inl (cI, 12, .inl snear)), (sla, .inl (cI, 36, .inl slds_1)), (sra, .inr (5, [.ref qs, .int qc])), (qs, .inl (cI, 12, .inl qf))]) E (tX6_lead l D cI cZ cM cS so sca sna sla sra sn sl sfin swk slds p1 p2 p3 hC6) 3 gX8_goes_X6_lead rfl rfl rfl (by decide +kernel) ⟨Nat.le_of_ble_eq_true rfl, Nat.le_of_ble_eq_true rfl⟩ hK hP hD hS hA 9 [3, 6, 0, 1, 2, 4, 5, 7, 8] rfl rfl (by decide) rfl rfl 0 6 rfl rfl rfl rfl hl.1 rfl (Nat.le_of_ble_eq_true rfl) dX8_goes_65 ⟨Nat.zero_le _, Nat.zero_le _⟩ (fun H locs hP hD hS => ?_)
        have hP : va_P D vwCl (wX8_goes cI cZ cM cS xo so ho ko ia fo wo zo dr rr sca sna sla sra qs ra hnx_1 hct_1 sn sl sfin swk scols snear slds_1 qc qf rg_1) H := hP
        have hD : va_D A (wX8_goes cI cZ cM cS xo so ho ko ia fo wo zo dr rr sca sna sla sra qs ra hnx_1 hct_1 sn sl sfin swk scols snear slds_1 qc qf rg_1) := hD
        refine W.eq (g2 := F0 m 68 ls []) rfl ?_
        refine lv_iload (pc := 68) hx hb dX8_goes_68 (lv_at hl 0 rfl) ?_
        cases hF
        exact hRet _ _ _ _ rfl dX8_goes_70 hP hD hS
      · have hF := oif_t hF hc
        refine lv_ldc (v := (-1000000001 : Int32)) (pc := 33) hx hb hown cn118 dX8_goes_33 ?_
        cases hF
        exact hRet _ _ _ _ rfl dX8_goes_35 hP hD hS
def fX8_finals (p1 : Int32) (hnx : Int32) (hct : Int32) (sn : Int32) (sl : Int32) (sfin : Int32) (swk : Int32) (scols : (Nat → Int32)) (snear : (Nat → Int32)) (slds : (Nat → Int32)) (qc : Int32) (qf : (Nat → Int32)) (rg : (Nat → zSV)) : Option (Int32 × Int32 × Int32 × Int32 × (Nat → zSV)) := (ob1 (fX6_hasItemsOf p1 sn sl sfin swk) (fun r_1 => (if r_1 = (0 : Int32) then (some ((-1000000001 : Int32), hnx, hct, sfin, rg)) else (ob3 (fX2_remember hnx hct sn sl sfin swk scols snear slds qc qf rg) (fun hnx_1 hct_1 rg_1 => (some (sfin, hnx_1, hct_1, p1, rg_1)))))))
abbrev wX8_finals (cI cZ cM cS : ClassId) (xo so ho ko ia fo wo zo dr rr sca sna sla sra qs : Nat) (ra : Nat → zSA) (hnx : Int32) (hct : Int32) (sn : Int32) (sl : Int32) (sfin : Int32) (swk : Int32) (scols : (Nat → Int32)) (snear : (Nat → Int32)) (slds : (Nat → Int32)) (qc : Int32) (qf : (Nat → Int32)) (rg : (Nat → zSV)) : va_W := [(xo, .inr (8, [.ref so, .ref ho, .ref ko, .ref ia, .ref fo, .ref wo, .ref zo, .ref dr])), (ho, .inr (2, [.ref rr, .int hnx, .int hct])), (rr, .inl (cS, 16, .inr (.inr (.inr (.inr (fun i => some (ra i).1)))))), (so, .inr (6, [.int sn, .int sl, .int sfin, .int swk, .ref sca, .ref sna, .ref sla, .ref sra])), (sca, .inl (cI, 12, .inl scols)), (sna, .inl (cI, 12, .inl snear)), (sla, .inl (cI, 36, .inl slds)), (sra, .inr (5, [.ref qs, .int qc])), (qs, .inl (cI, 12, .inl qf))] ++ (zRing cI ra rg)
set_option maxHeartbeats 4000000 in
set_option maxRecDepth 100000 in
theorem tX8_finals (l : Launch) (D : va_G) (cI cZ cM cS : ClassId) (xo so ho ko ia fo wo zo dr rr sca sna sla sra qs : Nat) (ra : Nat → zSA) (hnx : Int32) (hct : Int32) (sn : Int32) (sl : Int32) (sfin : Int32) (swk : Int32) (scols : (Nat → Int32)) (snear : (Nat → Int32)) (slds : (Nat → Int32)) (qc : Int32) (qf : (Nat → Int32)) (rg : (Nat → zSV)) (p1 : Int32) {r : Int32} {hnx' : Int32} {hct' : Int32} {sfin' : Int32} {rg' : (Nat → zSV)} (hF : fX8_finals p1 hnx hct sn sl sfin swk scols snear slds qc qf rg = some (r, hnx', hct', sfin', rg')) : zCW l yX8_finals wsX8_finals (zRm 4 111) D (zTy cI cZ cM cS) [.ref xo, .int p1] (wX8_finals cI cZ cM cS xo so ho ko ia fo wo zo dr rr sca sna sla sra qs ra hnx hct sn sl sfin swk scols snear slds qc qf rg) (wX8_finals cI cZ cM cS xo so ho ko ia fo wo zo dr rr sca sna sla sra qs ra hnx' hct' sn sl sfin' swk scols snear slds qc qf rg') (some (.int r)) := by
  unfold fX8_finals at hF
  refine zCW_ofi (cc := cX8_finals) (maxL := 3) (own := RX8) (by decide) rfl rfl (Nat.le_of_ble_eq_true rfl) (fun p e s m args below meth c Q ls A E hA hK hP hD hRet hS hl => ?_)
  refine zgen (fun H locs hP hS => ?_) hP hS
  have hl : lv_has ls 3 [(0, .ref xo), (1, .int p1)] := hl
  obtain ⟨hx, hb, hml, hown, hts⟩ := id E
  have inX6 : ∀ w ∈ u_ws RX6 TX6 8, w ∈ wsX8_finals := by decide +kernel
  have inX8 : ∀ w ∈ u_ws RX8 TX8 8, w ∈ wsX8_finals := by decide +kernel
  have fl10 := hts (.fieldLink RX8 10 "SplitClasses" "now" "LSplitClasses$State;") (by decide +kernel)
  have fl19 := hts (.fieldLink RX8 19 "SplitClasses" "history" "LSplitClasses$History;") (by decide +kernel)
  have fl85 := hts (.fieldLink RX8 85 "SplitClasses$State" "finalSet" "I") (by decide +kernel)
  have cn118 := hts (.constant RX8 118 (-1000000001)) (by decide +kernel)
  refine lv_aload_n (pc := 0) hx hb dX8_finals_0 rfl (lv_at hl 0 rfl) ?_
  refine va_get (pc := 1) (ci := 8) (C := RX8) (T := TX8) (N := 8) hx hb hts inX8 hown hK hP 0 rfl rfl 0 (by decide) fl10 (fun _ h9 => h9) rfl dX8_finals_1 ?_
  refine lv_iload_n (pc := 4) hx hb dX8_finals_4 rfl (lv_at hl 1 rfl) ?_
  obtain ⟨r_1, hC1, hF⟩ := ob1_e hF
  refine zVr (pc := 5) (As := [.int p1]) (rest := []) E (tX6_hasItemsOf l D cI cZ cM cS so sca sna sla sra sn sl sfin swk p1 hC1) 1 gX8_finals_X6_hasItemsOf rfl rfl rfl (by decide +kernel) ⟨Nat.le_of_ble_eq_true rfl, Nat.le_of_ble_eq_true rfl⟩ hK hP [3] rfl 0 6 rfl rfl rfl rfl hl.1 rfl (Nat.le_of_ble_eq_true rfl) dX8_finals_5 ⟨Nat.zero_le _, Nat.zero_le _⟩ ?_
  refine lv_if_ne (pc := 8) (tgt := 14) hx hb dX8_finals_8 (by decide) (fun hc => ?_) (fun hc => ?_)
  · have hF := oif_f hF hc
    refine lv_aload_n (pc := 14) hx hb dX8_finals_14 rfl (lv_at hl 0 rfl) ?_
    refine va_get (pc := 15) (ci := 8) (C := RX8) (T := TX8) (N := 8) hx hb hts inX8 hown hK hP 0 rfl rfl 0 (by decide) fl10 (fun _ h9 => h9) rfl dX8_finals_15 ?_
    refine va_get (pc := 18) (ci := 6) (C := RX6) (T := TX6) (N := 8) hx hb hts inX6 hown hK hP 3 rfl rfl 2 (by decide) fl85 (fun _ h9 => h9) rfl dX8_finals_18 ?_
    refine lv_istore_n (lv' := [(2, .int sfin), (0, .ref xo), (1, .int p1)]) (pc := 21) hx hb dX8_finals_21 rfl hl (by decide) rfl (fun ls hl => ?_)
    refine lv_aload_n (pc := 22) hx hb dX8_finals_22 rfl (lv_at hl 1 rfl) ?_
    refine va_get (pc := 23) (ci := 8) (C := RX8) (T := TX8) (N := 8) hx hb hts inX8 hown hK hP 0 rfl rfl 1 (by decide) fl19 (fun _ h9 => h9) rfl dX8_finals_23 ?_
    refine lv_aload_n (pc := 26) hx hb dX8_finals_26 rfl (lv_at hl 1 rfl) ?_
    refine va_get (pc := 27) (ci := 8) (C := RX8) (T := TX8) (N := 8) hx hb hts inX8 hown hK hP 0 rfl rfl 0 (by decide) fl10 (fun _ h9 => h9) rfl dX8_finals_27 ?_
    obtain ⟨hnx_1, hct_1, rg_1, hC2, hF⟩ := ob3_e hF
    refine zVTT (T := (zRing cI ra rg)) (T1 := (zRing cI ra rg_1)) (pc := 30) (As := [.ref so]) (rest := []) (ws := [(xo, .inr (8, [.ref so, .ref ho, .ref ko, .ref ia, .ref fo, .ref wo, .ref zo, .ref dr])), (ho, .inr (2, [.ref rr, .int hnx, .int hct])), (rr, .inl (cS, 16, .inr (.inr (.inr (.inr (fun i => some (ra i).1)))))), (so, .inr (6, [.int sn, .int sl, .int sfin, .int swk, .ref sca, .ref sna, .ref sla, .ref sra])), (sca, .inl (cI, 12, .inl scols)), (sna, .inl (cI, 12, .inl snear)), (sla, .inl (cI, 36, .inl slds)), (sra, .inr (5, [.ref qs, .int qc])), (qs, .inl (cI, 12, .inl qf))]) (wc := [(ho, .inr (2, [.ref rr, .int hnx, .int hct])), (rr, .inl (cS, 16, .inr (.inr (.inr (.inr (fun i => some (ra i).1)))))), (so, .inr (6, [.int sn, .int sl, .int sfin, .int swk, .ref sca, .ref sna, .ref sla, .ref sra])), (sca, .inl (cI, 12, .inl scols)), (sna, .inl (cI, 12, .inl snear)), (sla, .inl (cI, 36, .inl slds)), (sra, .inr (5, [.ref qs, .int qc])), (qs, .inl (cI, 12, .inl qf))]) (w1 := [(ho, .inr (2, [.ref rr, .int hnx_1, .int hct_1])), (rr, .inl (cS, 16, .inr (.inr (.inr (.inr (fun i => some (ra i).1)))))), (so, .inr (6, [.int sn, .int sl, .int sfin, .int swk, .ref sca, .ref sna, .ref sla, .ref sra])), (sca, .inl (cI, 12, .inl scols)), (sna, .inl (cI, 12, .inl snear)), (sla, .inl (cI, 36, .inl slds)), (sra, .inr (5, [.ref qs, .int qc])), (qs, .inl (cI, 12, .inl qf))]) (wr := [(xo, .inr (8, [.ref so, .ref ho, .ref ko, .ref ia, .ref fo, .ref wo, .ref zo, .ref dr]))]) (w2 := [(xo, .inr (8, [.ref so, .ref ho, .ref ko, .ref ia, .ref fo, .ref wo, .ref zo, .ref dr])), (ho, .inr (2, [.ref rr, .int hnx_1, .int hct_1])), (rr, .inl (cS, 16, .inr (.inr (.inr (.inr (fun i => some (ra i).1)))))), (so, .inr (6, [.int sn, .int sl, .int sfin, .int swk, .ref sca, .ref sna, .ref sla, .ref sra])), (sca, .inl (cI, 12, .inl scols)), (sna, .inl (cI, 12, .inl snear)), (sla, .inl (cI, 36, .inl slds)), (sra, .inr (5, [.ref qs, .int qc])), (qs, .inl (cI, 12, .inl qf))]) E (tX2_remember l D cI cZ cM cS ho rr so sca sna sla sra qs ra hnx hct sn sl sfin swk scols snear slds qc qf rg hC2) 1 gX8_finals_X2_remember rfl rfl rfl (by decide +kernel) ⟨Nat.le_of_ble_eq_true rfl, Nat.le_of_ble_eq_true rfl⟩ hK hP hD hS hA 9 [1, 2, 3, 4, 5, 6, 7, 8, 0] rfl rfl (by decide) rfl rfl 0 2 rfl rfl rfl rfl hl.1 rfl (Nat.le_of_ble_eq_true rfl) dX8_finals_30 ⟨Nat.zero_le _, Nat.zero_le _⟩ (fun H locs hP hD hS => ?_)
    have hP : va_P D vwCl (wX8_finals cI cZ cM cS xo so ho ko ia fo wo zo dr rr sca sna sla sra qs ra hnx_1 hct_1 sn sl sfin swk scols snear slds qc qf rg_1) H := hP
    have hD : va_D A (wX8_finals cI cZ cM cS xo so ho ko ia fo wo zo dr rr sca sna sla sra qs ra hnx_1 hct_1 sn sl sfin swk scols snear slds qc qf rg_1) := hD
    refine W.eq (g2 := F0 m 33 ls []) rfl ?_
    refine lv_aload_n (pc := 33) hx hb dX8_finals_33 rfl (lv_at hl 1 rfl) ?_
    refine va_get (pc := 34) (ci := 8) (C := RX8) (T := TX8) (N := 8) hx hb hts inX8 hown hK hP 0 rfl rfl 0 (by decide) fl10 (fun _ h9 => h9) rfl dX8_finals_34 ?_
    refine lv_iload_n (pc := 37) hx hb dX8_finals_37 rfl (lv_at hl 2 rfl) ?_
    refine va_put (pc := 38) (D := D) (ci := 6) (v := .int p1) (ty := .int) (C := RX6) (T := TX6) (N := 8) hx hb hts inX6 tyX6 tyX6_ok nmX6 hown hK hP hD hS 3 rfl rfl 2 (by decide) fl85 (fun _ h9 => h9) rfl (by decide +kernel) rfl rfl (Nat.le_of_ble_eq_true rfl) dX8_finals_38 (fun H locs hP hD hS => ?_)
    have hP : va_P D vwCl (wX8_finals cI cZ cM cS xo so ho ko ia fo wo zo dr rr sca sna sla sra qs ra hnx_1 hct_1 sn sl p1 swk scols snear slds qc qf rg_1) H := hP
    have hD : va_D A (wX8_finals cI cZ cM cS xo so ho ko ia fo wo zo dr rr sca sna sla sra qs ra hnx_1 hct_1 sn sl p1 swk scols snear slds qc qf rg_1) := hD
    refine lv_iload_n (pc := 41) hx hb dX8_finals_41 rfl (lv_at hl 0 rfl) ?_
    cases hF
    exact hRet _ _ _ _ rfl dX8_finals_42 hP hD hS
  · have hF := oif_t hF hc
    refine lv_ldc (v := (-1000000001 : Int32)) (pc := 11) hx hb hown cn118 dX8_finals_11 ?_
    cases hF
    exact hRet _ _ _ _ rfl dX8_finals_13 hP hD hS
def fX8_begin (hnx : Int32) (hct : Int32) (sn : Int32) (sl : Int32) (sfin : Int32) (swk : Int32) (scols : (Nat → Int32)) (snear : (Nat → Int32)) (slds : (Nat → Int32)) (qc : Int32) (qf : (Nat → Int32)) (rg : (Nat → zSV)) : Option (Int32 × Int32 × Int32 × Int32 × Int32 × (Nat → Int32) × (Nat → zSV)) := (ob3 (fX2_remember hnx hct sn sl sfin swk scols snear slds qc qf rg) (fun hnx_1 hct_1 rg_1 => (ob1 (fX6_all sn sl sfin swk) (fun r_1 => (ob2 (fX5_gather r_1 qc qf) (fun qc_1 qf_1 => (some (qc, hnx_1, hct_1, (0 : Int32), qc_1, qf_1, rg_1))))))))
abbrev wX8_begin (cI cZ cM cS : ClassId) (xo so ho ko ia fo wo zo dr rr sca sna sla sra qs : Nat) (ra : Nat → zSA) (hnx : Int32) (hct : Int32) (sn : Int32) (sl : Int32) (sfin : Int32) (swk : Int32) (scols : (Nat → Int32)) (snear : (Nat → Int32)) (slds : (Nat → Int32)) (qc : Int32) (qf : (Nat → Int32)) (rg : (Nat → zSV)) : va_W := [(xo, .inr (8, [.ref so, .ref ho, .ref ko, .ref ia, .ref fo, .ref wo, .ref zo, .ref dr])), (ho, .inr (2, [.ref rr, .int hnx, .int hct])), (rr, .inl (cS, 16, .inr (.inr (.inr (.inr (fun i => some (ra i).1)))))), (so, .inr (6, [.int sn, .int sl, .int sfin, .int swk, .ref sca, .ref sna, .ref sla, .ref sra])), (sca, .inl (cI, 12, .inl scols)), (sna, .inl (cI, 12, .inl snear)), (sla, .inl (cI, 36, .inl slds)), (sra, .inr (5, [.ref qs, .int qc])), (qs, .inl (cI, 12, .inl qf))] ++ (zRing cI ra rg)
set_option maxHeartbeats 4000000 in
set_option maxRecDepth 100000 in
theorem tX8_begin (l : Launch) (D : va_G) (cI cZ cM cS : ClassId) (xo so ho ko ia fo wo zo dr rr sca sna sla sra qs : Nat) (ra : Nat → zSA) (hnx : Int32) (hct : Int32) (sn : Int32) (sl : Int32) (sfin : Int32) (swk : Int32) (scols : (Nat → Int32)) (snear : (Nat → Int32)) (slds : (Nat → Int32)) (qc : Int32) (qf : (Nat → Int32)) (rg : (Nat → zSV)) {r : Int32} {hnx' : Int32} {hct' : Int32} {swk' : Int32} {qc' : Int32} {qf' : (Nat → Int32)} {rg' : (Nat → zSV)} (hF : fX8_begin hnx hct sn sl sfin swk scols snear slds qc qf rg = some (r, hnx', hct', swk', qc', qf', rg')) : zCW l yX8_begin wsX8_begin (zRm 4 111) D (zTy cI cZ cM cS) [.ref xo] (wX8_begin cI cZ cM cS xo so ho ko ia fo wo zo dr rr sca sna sla sra qs ra hnx hct sn sl sfin swk scols snear slds qc qf rg) (wX8_begin cI cZ cM cS xo so ho ko ia fo wo zo dr rr sca sna sla sra qs ra hnx' hct' sn sl sfin swk' scols snear slds qc' qf' rg') (some (.int r)) := by
  unfold fX8_begin at hF
  refine zCW_ofi (cc := cX8_begin) (maxL := 2) (own := RX8) (by decide) rfl rfl (Nat.le_of_ble_eq_true rfl) (fun p e s m args below meth c Q ls A E hA hK hP hD hRet hS hl => ?_)
  refine zgen (fun H locs hP hS => ?_) hP hS
  have hl : lv_has ls 2 [(0, .ref xo)] := hl
  obtain ⟨hx, hb, hml, hown, hts⟩ := id E
  have inX5 : ∀ w ∈ u_ws RX5 TX5 2, w ∈ wsX8_begin := by decide +kernel
  have inX6 : ∀ w ∈ u_ws RX6 TX6 8, w ∈ wsX8_begin := by decide +kernel
  have inX8 : ∀ w ∈ u_ws RX8 TX8 8, w ∈ wsX8_begin := by decide +kernel
  have fl10 := hts (.fieldLink RX8 10 "SplitClasses" "now" "LSplitClasses$State;") (by decide +kernel)
  have fl19 := hts (.fieldLink RX8 19 "SplitClasses" "history" "LSplitClasses$History;") (by decide +kernel)
  have fl69 := hts (.fieldLink RX8 69 "SplitClasses$State" "row" "LSplitClasses$Row;") (by decide +kernel)
  have fl72 := hts (.fieldLink RX8 72 "SplitClasses$Row" "count" "I") (by decide +kernel)
  have fl75 := hts (.fieldLink RX8 75 "SplitClasses$State" "work" "I") (by decide +kernel)
  refine lv_aload_n (pc := 0) hx hb dX8_begin_0 rfl (lv_at hl 0 rfl) ?_
  refine va_get (pc := 1) (ci := 8) (C := RX8) (T := TX8) (N := 8) hx hb hts inX8 hown hK hP 0 rfl rfl 0 (by decide) fl10 (fun _ h9 => h9) rfl dX8_begin_1 ?_
  refine va_get (pc := 4) (ci := 6) (C := RX6) (T := TX6) (N := 8) hx hb hts inX6 hown hK hP 3 rfl rfl 7 (by decide) fl69 (fun _ h9 => h9) rfl dX8_begin_4 ?_
  refine va_get (pc := 7) (ci := 5) (C := RX5) (T := TX5) (N := 2) hx hb hts inX5 hown hK hP 7 rfl rfl 1 (by decide) fl72 (fun _ h9 => h9) rfl dX8_begin_7 ?_
  refine lv_istore_n (lv' := [(1, .int qc), (0, .ref xo)]) (pc := 10) hx hb dX8_begin_10 rfl hl (by decide) rfl (fun ls hl => ?_)
  refine lv_aload_n (pc := 11) hx hb dX8_begin_11 rfl (lv_at hl 1 rfl) ?_
  refine va_get (pc := 12) (ci := 8) (C := RX8) (T := TX8) (N := 8) hx hb hts inX8 hown hK hP 0 rfl rfl 1 (by decide) fl19 (fun _ h9 => h9) rfl dX8_begin_12 ?_
  refine lv_aload_n (pc := 15) hx hb dX8_begin_15 rfl (lv_at hl 1 rfl) ?_
  refine va_get (pc := 16) (ci := 8) (C := RX8) (T := TX8) (N := 8) hx hb hts inX8 hown hK hP 0 rfl rfl 0 (by decide) fl10 (fun _ h9 => h9) rfl dX8_begin_16 ?_
  obtain ⟨hnx_1, hct_1, rg_1, hC1, hF⟩ := ob3_e hF
  refine zVTT (T := (zRing cI ra rg)) (T1 := (zRing cI ra rg_1)) (pc := 19) (As := [.ref so]) (rest := []) (ws := [(xo, .inr (8, [.ref so, .ref ho, .ref ko, .ref ia, .ref fo, .ref wo, .ref zo, .ref dr])), (ho, .inr (2, [.ref rr, .int hnx, .int hct])), (rr, .inl (cS, 16, .inr (.inr (.inr (.inr (fun i => some (ra i).1)))))), (so, .inr (6, [.int sn, .int sl, .int sfin, .int swk, .ref sca, .ref sna, .ref sla, .ref sra])), (sca, .inl (cI, 12, .inl scols)), (sna, .inl (cI, 12, .inl snear)), (sla, .inl (cI, 36, .inl slds)), (sra, .inr (5, [.ref qs, .int qc])), (qs, .inl (cI, 12, .inl qf))]) (wc := [(ho, .inr (2, [.ref rr, .int hnx, .int hct])), (rr, .inl (cS, 16, .inr (.inr (.inr (.inr (fun i => some (ra i).1)))))), (so, .inr (6, [.int sn, .int sl, .int sfin, .int swk, .ref sca, .ref sna, .ref sla, .ref sra])), (sca, .inl (cI, 12, .inl scols)), (sna, .inl (cI, 12, .inl snear)), (sla, .inl (cI, 36, .inl slds)), (sra, .inr (5, [.ref qs, .int qc])), (qs, .inl (cI, 12, .inl qf))]) (w1 := [(ho, .inr (2, [.ref rr, .int hnx_1, .int hct_1])), (rr, .inl (cS, 16, .inr (.inr (.inr (.inr (fun i => some (ra i).1)))))), (so, .inr (6, [.int sn, .int sl, .int sfin, .int swk, .ref sca, .ref sna, .ref sla, .ref sra])), (sca, .inl (cI, 12, .inl scols)), (sna, .inl (cI, 12, .inl snear)), (sla, .inl (cI, 36, .inl slds)), (sra, .inr (5, [.ref qs, .int qc])), (qs, .inl (cI, 12, .inl qf))]) (wr := [(xo, .inr (8, [.ref so, .ref ho, .ref ko, .ref ia, .ref fo, .ref wo, .ref zo, .ref dr]))]) (w2 := [(xo, .inr (8, [.ref so, .ref ho, .ref ko, .ref ia, .ref fo, .ref wo, .ref zo, .ref dr])), (ho, .inr (2, [.ref rr, .int hnx_1, .int hct_1])), (rr, .inl (cS, 16, .inr (.inr (.inr (.inr (fun i => some (ra i).1)))))), (so, .inr (6, [.int sn, .int sl, .int sfin, .int swk, .ref sca, .ref sna, .ref sla, .ref sra])), (sca, .inl (cI, 12, .inl scols)), (sna, .inl (cI, 12, .inl snear)), (sla, .inl (cI, 36, .inl slds)), (sra, .inr (5, [.ref qs, .int qc])), (qs, .inl (cI, 12, .inl qf))]) E (tX2_remember l D cI cZ cM cS ho rr so sca sna sla sra qs ra hnx hct sn sl sfin swk scols snear slds qc qf rg hC1) 1 gX8_begin_X2_remember rfl rfl rfl (by decide +kernel) ⟨Nat.le_of_ble_eq_true rfl, Nat.le_of_ble_eq_true rfl⟩ hK hP hD hS hA 9 [1, 2, 3, 4, 5, 6, 7, 8, 0] rfl rfl (by decide) rfl rfl 0 2 rfl rfl rfl rfl hl.1 rfl (Nat.le_of_ble_eq_true rfl) dX8_begin_19 ⟨Nat.zero_le _, Nat.zero_le _⟩ (fun H locs hP hD hS => ?_)
  have hP : va_P D vwCl (wX8_begin cI cZ cM cS xo so ho ko ia fo wo zo dr rr sca sna sla sra qs ra hnx_1 hct_1 sn sl sfin swk scols snear slds qc qf rg_1) H := hP
  have hD : va_D A (wX8_begin cI cZ cM cS xo so ho ko ia fo wo zo dr rr sca sna sla sra qs ra hnx_1 hct_1 sn sl sfin swk scols snear slds qc qf rg_1) := hD
  refine W.eq (g2 := F0 m 22 ls []) rfl ?_
  refine lv_aload_n (pc := 22) hx hb dX8_begin_22 rfl (lv_at hl 1 rfl) ?_
  refine va_get (pc := 23) (ci := 8) (C := RX8) (T := TX8) (N := 8) hx hb hts inX8 hown hK hP 0 rfl rfl 0 (by decide) fl10 (fun _ h9 => h9) rfl dX8_begin_23 ?_
  refine va_get (pc := 26) (ci := 6) (C := RX6) (T := TX6) (N := 8) hx hb hts inX6 hown hK hP 3 rfl rfl 7 (by decide) fl69 (fun _ h9 => h9) rfl dX8_begin_26 ?_
  refine lv_aload_n (pc := 29) hx hb dX8_begin_29 rfl (lv_at hl 1 rfl) ?_
  refine va_get (pc := 30) (ci := 8) (C := RX8) (T := TX8) (N := 8) hx hb hts inX8 hown hK hP 0 rfl rfl 0 (by decide) fl10 (fun _ h9 => h9) rfl dX8_begin_30 ?_
  obtain ⟨r_1, hC2, hF⟩ := ob1_e hF
  refine zVr (pc := 33) (As := []) (rest := [.ref sra]) E (tX6_all l D cI cZ cM cS so sca sna sla sra sn sl sfin swk hC2) 0 gX8_begin_X6_all rfl rfl rfl (by decide +kernel) ⟨Nat.le_of_ble_eq_true rfl, Nat.le_of_ble_eq_true rfl⟩ hK hP [3] rfl 0 6 rfl rfl rfl rfl hl.1 rfl (Nat.le_of_ble_eq_true rfl) dX8_begin_33 ⟨Nat.zero_le _, Nat.zero_le _⟩ ?_
  obtain ⟨qc_1, qf_1, hC3, hF⟩ := ob2_e hF
  refine zVT (T := (zRing cI ra rg_1)) (pc := 36) (As := [.int r_1]) (rest := []) (ws := [(xo, .inr (8, [.ref so, .ref ho, .ref ko, .ref ia, .ref fo, .ref wo, .ref zo, .ref dr])), (ho, .inr (2, [.ref rr, .int hnx_1, .int hct_1])), (rr, .inl (cS, 16, .inr (.inr (.inr (.inr (fun i => some (ra i).1)))))), (so, .inr (6, [.int sn, .int sl, .int sfin, .int swk, .ref sca, .ref sna, .ref sla, .ref sra])), (sca, .inl (cI, 12, .inl scols)), (sna, .inl (cI, 12, .inl snear)), (sla, .inl (cI, 36, .inl slds)), (sra, .inr (5, [.ref qs, .int qc])), (qs, .inl (cI, 12, .inl qf))]) (wc := [(sra, .inr (5, [.ref qs, .int qc])), (qs, .inl (cI, 12, .inl qf))]) (w1 := [(sra, .inr (5, [.ref qs, .int qc_1])), (qs, .inl (cI, 12, .inl qf_1))]) (wr := [(xo, .inr (8, [.ref so, .ref ho, .ref ko, .ref ia, .ref fo, .ref wo, .ref zo, .ref dr])), (ho, .inr (2, [.ref rr, .int hnx_1, .int hct_1])), (rr, .inl (cS, 16, .inr (.inr (.inr (.inr (fun i => some (ra i).1)))))), (so, .inr (6, [.int sn, .int sl, .int sfin, .int swk, .ref sca, .ref sna, .ref sla, .ref sra])), (sca, .inl (cI, 12, .inl scols)), (sna, .inl (cI, 12, .inl snear)), (sla, .inl (cI, 36, .inl slds))]) (w2 := [(xo, .inr (8, [.ref so, .ref ho, .ref ko, .ref ia, .ref fo, .ref wo, .ref zo, .ref dr])), (ho, .inr (2, [.ref rr, .int hnx_1, .int hct_1])), (rr, .inl (cS, 16, .inr (.inr (.inr (.inr (fun i => some (ra i).1)))))), (so, .inr (6, [.int sn, .int sl, .int sfin, .int swk, .ref sca, .ref sna, .ref sla, .ref sra])), (sca, .inl (cI, 12, .inl scols)), (sna, .inl (cI, 12, .inl snear)), (sla, .inl (cI, 36, .inl slds)), (sra, .inr (5, [.ref qs, .int qc_1])), (qs, .inl (cI, 12, .inl qf_1))]) E (tX5_gather l D cI cZ cM cS sra qs qc qf r_1 hC3) 1 gX8_begin_X5_gather rfl rfl rfl (by decide +kernel) ⟨Nat.le_of_ble_eq_true rfl, Nat.le_of_ble_eq_true rfl⟩ hK hP hD hS hA 9 [7, 8, 0, 1, 2, 3, 4, 5, 6] rfl rfl (by decide) rfl rfl 0 5 rfl rfl rfl rfl hl.1 rfl (Nat.le_of_ble_eq_true rfl) dX8_begin_36 ⟨Nat.zero_le _, Nat.zero_le _⟩ (fun H locs hP hD hS => ?_)
  have hP : va_P D vwCl (wX8_begin cI cZ cM cS xo so ho ko ia fo wo zo dr rr sca sna sla sra qs ra hnx_1 hct_1 sn sl sfin swk scols snear slds qc_1 qf_1 rg_1) H := hP
  have hD : va_D A (wX8_begin cI cZ cM cS xo so ho ko ia fo wo zo dr rr sca sna sla sra qs ra hnx_1 hct_1 sn sl sfin swk scols snear slds qc_1 qf_1 rg_1) := hD
  refine W.eq (g2 := F0 m 39 ls []) rfl ?_
  refine lv_aload_n (pc := 39) hx hb dX8_begin_39 rfl (lv_at hl 1 rfl) ?_
  refine va_get (pc := 40) (ci := 8) (C := RX8) (T := TX8) (N := 8) hx hb hts inX8 hown hK hP 0 rfl rfl 0 (by decide) fl10 (fun _ h9 => h9) rfl dX8_begin_40 ?_
  refine lv_iconst (v := (0 : Int32)) (pc := 43) hx hb dX8_begin_43 (by decide) ?_
  refine va_put (pc := 44) (D := D) (ci := 6) (v := .int (0 : Int32)) (ty := .int) (C := RX6) (T := TX6) (N := 8) hx hb hts inX6 tyX6 tyX6_ok nmX6 hown hK hP hD hS 3 rfl rfl 3 (by decide) fl75 (fun _ h9 => h9) rfl (by decide +kernel) rfl rfl (Nat.le_of_ble_eq_true rfl) dX8_begin_44 (fun H locs hP hD hS => ?_)
  have hP : va_P D vwCl (wX8_begin cI cZ cM cS xo so ho ko ia fo wo zo dr rr sca sna sla sra qs ra hnx_1 hct_1 sn sl sfin (0 : Int32) scols snear slds qc_1 qf_1 rg_1) H := hP
  have hD : va_D A (wX8_begin cI cZ cM cS xo so ho ko ia fo wo zo dr rr sca sna sla sra qs ra hnx_1 hct_1 sn sl sfin (0 : Int32) scols snear slds qc_1 qf_1 rg_1) := hD
  refine lv_iload_n (pc := 47) hx hb dX8_begin_47 rfl (lv_at hl 0 rfl) ?_
  cases hF
  exact hRet _ _ _ _ rfl dX8_begin_48 hP hD hS
def fX8_splitAndCount (p1 : Int32) (hnx : Int32) (hct : Int32) (sn : Int32) (sl : Int32) (sfin : Int32) (swk : Int32) (scols : (Nat → Int32)) (snear : (Nat → Int32)) (slds : (Nat → Int32)) (qc : Int32) (qf : (Nat → Int32)) (rg : (Nat → zSV)) : Option (Int32 × Int32 × Int32 × Int32 × Int32 × (Nat → Int32) × (Nat → zSV)) := (ob3 (fX2_remember hnx hct sn sl sfin swk scols snear slds qc qf rg) (fun hnx_1 hct_1 rg_1 => (ob2 (fX5_cutBy p1 qc qf) (fun qc_1 qf_1 => (ob1 (fJ6_bitCount_0f7a4 p1) (fun r_1 => (some (qc_1, hnx_1, hct_1, (swk + r_1), qc_1, qf_1, rg_1))))))))
abbrev wX8_splitAndCount (cI cZ cM cS : ClassId) (xo so ho ko ia fo wo zo dr rr sca sna sla sra qs : Nat) (ra : Nat → zSA) (hnx : Int32) (hct : Int32) (sn : Int32) (sl : Int32) (sfin : Int32) (swk : Int32) (scols : (Nat → Int32)) (snear : (Nat → Int32)) (slds : (Nat → Int32)) (qc : Int32) (qf : (Nat → Int32)) (rg : (Nat → zSV)) : va_W := [(xo, .inr (8, [.ref so, .ref ho, .ref ko, .ref ia, .ref fo, .ref wo, .ref zo, .ref dr])), (ho, .inr (2, [.ref rr, .int hnx, .int hct])), (rr, .inl (cS, 16, .inr (.inr (.inr (.inr (fun i => some (ra i).1)))))), (so, .inr (6, [.int sn, .int sl, .int sfin, .int swk, .ref sca, .ref sna, .ref sla, .ref sra])), (sca, .inl (cI, 12, .inl scols)), (sna, .inl (cI, 12, .inl snear)), (sla, .inl (cI, 36, .inl slds)), (sra, .inr (5, [.ref qs, .int qc])), (qs, .inl (cI, 12, .inl qf))] ++ (zRing cI ra rg)
set_option maxHeartbeats 4000000 in
set_option maxRecDepth 100000 in
theorem tX8_splitAndCount (l : Launch) (D : va_G) (cI cZ cM cS : ClassId) (xo so ho ko ia fo wo zo dr rr sca sna sla sra qs : Nat) (ra : Nat → zSA) (hnx : Int32) (hct : Int32) (sn : Int32) (sl : Int32) (sfin : Int32) (swk : Int32) (scols : (Nat → Int32)) (snear : (Nat → Int32)) (slds : (Nat → Int32)) (qc : Int32) (qf : (Nat → Int32)) (rg : (Nat → zSV)) (p1 : Int32) {r : Int32} {hnx' : Int32} {hct' : Int32} {swk' : Int32} {qc' : Int32} {qf' : (Nat → Int32)} {rg' : (Nat → zSV)} (hF : fX8_splitAndCount p1 hnx hct sn sl sfin swk scols snear slds qc qf rg = some (r, hnx', hct', swk', qc', qf', rg')) : zCW l yX8_splitAndCount wsX8_splitAndCount (zRm 4 111) D (zTy cI cZ cM cS) [.ref xo, .int p1] (wX8_splitAndCount cI cZ cM cS xo so ho ko ia fo wo zo dr rr sca sna sla sra qs ra hnx hct sn sl sfin swk scols snear slds qc qf rg) (wX8_splitAndCount cI cZ cM cS xo so ho ko ia fo wo zo dr rr sca sna sla sra qs ra hnx' hct' sn sl sfin swk' scols snear slds qc' qf' rg') (some (.int r)) := by
  unfold fX8_splitAndCount at hF
  refine zCW_ofi (cc := cX8_splitAndCount) (maxL := 2) (own := RX8) (by decide) rfl rfl (Nat.le_of_ble_eq_true rfl) (fun p e s m args below meth c Q ls A E hA hK hP hD hRet hS hl => ?_)
  refine zgen (fun H locs hP hS => ?_) hP hS
  have hl : lv_has ls 2 [(0, .ref xo), (1, .int p1)] := hl
  obtain ⟨hx, hb, hml, hown, hts⟩ := id E
  have inX5 : ∀ w ∈ u_ws RX5 TX5 2, w ∈ wsX8_splitAndCount := by decide +kernel
  have inX6 : ∀ w ∈ u_ws RX6 TX6 8, w ∈ wsX8_splitAndCount := by decide +kernel
  have inX8 : ∀ w ∈ u_ws RX8 TX8 8, w ∈ wsX8_splitAndCount := by decide +kernel
  have fl10 := hts (.fieldLink RX8 10 "SplitClasses" "now" "LSplitClasses$State;") (by decide +kernel)
  have fl19 := hts (.fieldLink RX8 19 "SplitClasses" "history" "LSplitClasses$History;") (by decide +kernel)
  have fl69 := hts (.fieldLink RX8 69 "SplitClasses$State" "row" "LSplitClasses$Row;") (by decide +kernel)
  have fl72 := hts (.fieldLink RX8 72 "SplitClasses$Row" "count" "I") (by decide +kernel)
  have fl75 := hts (.fieldLink RX8 75 "SplitClasses$State" "work" "I") (by decide +kernel)
  refine lv_aload_n (pc := 0) hx hb dX8_splitAndCount_0 rfl (lv_at hl 0 rfl) ?_
  refine va_get (pc := 1) (ci := 8) (C := RX8) (T := TX8) (N := 8) hx hb hts inX8 hown hK hP 0 rfl rfl 1 (by decide) fl19 (fun _ h9 => h9) rfl dX8_splitAndCount_1 ?_
  refine lv_aload_n (pc := 4) hx hb dX8_splitAndCount_4 rfl (lv_at hl 0 rfl) ?_
  refine va_get (pc := 5) (ci := 8) (C := RX8) (T := TX8) (N := 8) hx hb hts inX8 hown hK hP 0 rfl rfl 0 (by decide) fl10 (fun _ h9 => h9) rfl dX8_splitAndCount_5 ?_
  obtain ⟨hnx_1, hct_1, rg_1, hC1, hF⟩ := ob3_e hF
  refine zVTT (T := (zRing cI ra rg)) (T1 := (zRing cI ra rg_1)) (pc := 8) (As := [.ref so]) (rest := []) (ws := [(xo, .inr (8, [.ref so, .ref ho, .ref ko, .ref ia, .ref fo, .ref wo, .ref zo, .ref dr])), (ho, .inr (2, [.ref rr, .int hnx, .int hct])), (rr, .inl (cS, 16, .inr (.inr (.inr (.inr (fun i => some (ra i).1)))))), (so, .inr (6, [.int sn, .int sl, .int sfin, .int swk, .ref sca, .ref sna, .ref sla, .ref sra])), (sca, .inl (cI, 12, .inl scols)), (sna, .inl (cI, 12, .inl snear)), (sla, .inl (cI, 36, .inl slds)), (sra, .inr (5, [.ref qs, .int qc])), (qs, .inl (cI, 12, .inl qf))]) (wc := [(ho, .inr (2, [.ref rr, .int hnx, .int hct])), (rr, .inl (cS, 16, .inr (.inr (.inr (.inr (fun i => some (ra i).1)))))), (so, .inr (6, [.int sn, .int sl, .int sfin, .int swk, .ref sca, .ref sna, .ref sla, .ref sra])), (sca, .inl (cI, 12, .inl scols)), (sna, .inl (cI, 12, .inl snear)), (sla, .inl (cI, 36, .inl slds)), (sra, .inr (5, [.ref qs, .int qc])), (qs, .inl (cI, 12, .inl qf))]) (w1 := [(ho, .inr (2, [.ref rr, .int hnx_1, .int hct_1])), (rr, .inl (cS, 16, .inr (.inr (.inr (.inr (fun i => some (ra i).1)))))), (so, .inr (6, [.int sn, .int sl, .int sfin, .int swk, .ref sca, .ref sna, .ref sla, .ref sra])), (sca, .inl (cI, 12, .inl scols)), (sna, .inl (cI, 12, .inl snear)), (sla, .inl (cI, 36, .inl slds)), (sra, .inr (5, [.ref qs, .int qc])), (qs, .inl (cI, 12, .inl qf))]) (wr := [(xo, .inr (8, [.ref so, .ref ho, .ref ko, .ref ia, .ref fo, .ref wo, .ref zo, .ref dr]))]) (w2 := [(xo, .inr (8, [.ref so, .ref ho, .ref ko, .ref ia, .ref fo, .ref wo, .ref zo, .ref dr])), (ho, .inr (2, [.ref rr, .int hnx_1, .int hct_1])), (rr, .inl (cS, 16, .inr (.inr (.inr (.inr (fun i => some (ra i).1)))))), (so, .inr (6, [.int sn, .int sl, .int sfin, .int swk, .ref sca, .ref sna, .ref sla, .ref sra])), (sca, .inl (cI, 12, .inl scols)), (sna, .inl (cI, 12, .inl snear)), (sla, .inl (cI, 36, .inl slds)), (sra, .inr (5, [.ref qs, .int qc])), (qs, .inl (cI, 12, .inl qf))]) E (tX2_remember l D cI cZ cM cS ho rr so sca sna sla sra qs ra hnx hct sn sl sfin swk scols snear slds qc qf rg hC1) 1 gX8_splitAndCount_X2_remember rfl rfl rfl (by decide +kernel) ⟨Nat.le_of_ble_eq_true rfl, Nat.le_of_ble_eq_true rfl⟩ hK hP hD hS hA 9 [1, 2, 3, 4, 5, 6, 7, 8, 0] rfl rfl (by decide) rfl rfl 0 2 rfl rfl rfl rfl hl.1 rfl (Nat.le_of_ble_eq_true rfl) dX8_splitAndCount_8 ⟨Nat.zero_le _, Nat.zero_le _⟩ (fun H locs hP hD hS => ?_)
  have hP : va_P D vwCl (wX8_splitAndCount cI cZ cM cS xo so ho ko ia fo wo zo dr rr sca sna sla sra qs ra hnx_1 hct_1 sn sl sfin swk scols snear slds qc qf rg_1) H := hP
  have hD : va_D A (wX8_splitAndCount cI cZ cM cS xo so ho ko ia fo wo zo dr rr sca sna sla sra qs ra hnx_1 hct_1 sn sl sfin swk scols snear slds qc qf rg_1) := hD
  refine W.eq (g2 := F0 m 11 ls []) rfl ?_
  refine lv_aload_n (pc := 11) hx hb dX8_splitAndCount_11 rfl (lv_at hl 0 rfl) ?_
  refine va_get (pc := 12) (ci := 8) (C := RX8) (T := TX8) (N := 8) hx hb hts inX8 hown hK hP 0 rfl rfl 0 (by decide) fl10 (fun _ h9 => h9) rfl dX8_splitAndCount_12 ?_
  refine va_get (pc := 15) (ci := 6) (C := RX6) (T := TX6) (N := 8) hx hb hts inX6 hown hK hP 3 rfl rfl 7 (by decide) fl69 (fun _ h9 => h9) rfl dX8_splitAndCount_15 ?_
  refine lv_iload_n (pc := 18) hx hb dX8_splitAndCount_18 rfl (lv_at hl 1 rfl) ?_
  obtain ⟨qc_1, qf_1, hC2, hF⟩ := ob2_e hF
  refine zVT (T := (zRing cI ra rg_1)) (pc := 19) (As := [.int p1]) (rest := []) (ws := [(xo, .inr (8, [.ref so, .ref ho, .ref ko, .ref ia, .ref fo, .ref wo, .ref zo, .ref dr])), (ho, .inr (2, [.ref rr, .int hnx_1, .int hct_1])), (rr, .inl (cS, 16, .inr (.inr (.inr (.inr (fun i => some (ra i).1)))))), (so, .inr (6, [.int sn, .int sl, .int sfin, .int swk, .ref sca, .ref sna, .ref sla, .ref sra])), (sca, .inl (cI, 12, .inl scols)), (sna, .inl (cI, 12, .inl snear)), (sla, .inl (cI, 36, .inl slds)), (sra, .inr (5, [.ref qs, .int qc])), (qs, .inl (cI, 12, .inl qf))]) (wc := [(sra, .inr (5, [.ref qs, .int qc])), (qs, .inl (cI, 12, .inl qf))]) (w1 := [(sra, .inr (5, [.ref qs, .int qc_1])), (qs, .inl (cI, 12, .inl qf_1))]) (wr := [(xo, .inr (8, [.ref so, .ref ho, .ref ko, .ref ia, .ref fo, .ref wo, .ref zo, .ref dr])), (ho, .inr (2, [.ref rr, .int hnx_1, .int hct_1])), (rr, .inl (cS, 16, .inr (.inr (.inr (.inr (fun i => some (ra i).1)))))), (so, .inr (6, [.int sn, .int sl, .int sfin, .int swk, .ref sca, .ref sna, .ref sla, .ref sra])), (sca, .inl (cI, 12, .inl scols)), (sna, .inl (cI, 12, .inl snear)), (sla, .inl (cI, 36, .inl slds))]) (w2 := [(xo, .inr (8, [.ref so, .ref ho, .ref ko, .ref ia, .ref fo, .ref wo, .ref zo, .ref dr])), (ho, .inr (2, [.ref rr, .int hnx_1, .int hct_1])), (rr, .inl (cS, 16, .inr (.inr (.inr (.inr (fun i => some (ra i).1)))))), (so, .inr (6, [.int sn, .int sl, .int sfin, .int swk, .ref sca, .ref sna, .ref sla, .ref sra])), (sca, .inl (cI, 12, .inl scols)), (sna, .inl (cI, 12, .inl snear)), (sla, .inl (cI, 36, .inl slds)), (sra, .inr (5, [.ref qs, .int qc_1])), (qs, .inl (cI, 12, .inl qf_1))]) E (tX5_cutBy l D cI cZ cM cS sra qs qc qf p1 hC2) 1 gX8_splitAndCount_X5_cutBy rfl rfl rfl (by decide +kernel) ⟨Nat.le_of_ble_eq_true rfl, Nat.le_of_ble_eq_true rfl⟩ hK hP hD hS hA 9 [7, 8, 0, 1, 2, 3, 4, 5, 6] rfl rfl (by decide) rfl rfl 0 5 rfl rfl rfl rfl hl.1 rfl (Nat.le_of_ble_eq_true rfl) dX8_splitAndCount_19 ⟨Nat.zero_le _, Nat.zero_le _⟩ (fun H locs hP hD hS => ?_)
  have hP : va_P D vwCl (wX8_splitAndCount cI cZ cM cS xo so ho ko ia fo wo zo dr rr sca sna sla sra qs ra hnx_1 hct_1 sn sl sfin swk scols snear slds qc_1 qf_1 rg_1) H := hP
  have hD : va_D A (wX8_splitAndCount cI cZ cM cS xo so ho ko ia fo wo zo dr rr sca sna sla sra qs ra hnx_1 hct_1 sn sl sfin swk scols snear slds qc_1 qf_1 rg_1) := hD
  refine W.eq (g2 := F0 m 22 ls []) rfl ?_
  refine lv_aload_n (pc := 22) hx hb dX8_splitAndCount_22 rfl (lv_at hl 0 rfl) ?_
  refine va_get (pc := 23) (ci := 8) (C := RX8) (T := TX8) (N := 8) hx hb hts inX8 hown hK hP 0 rfl rfl 0 (by decide) fl10 (fun _ h9 => h9) rfl dX8_splitAndCount_23 ?_
  refine lv_dup (pc := 26) hx hb dX8_splitAndCount_26 rfl ?_
  refine va_get (pc := 27) (ci := 6) (C := RX6) (T := TX6) (N := 8) hx hb hts inX6 hown hK hP 3 rfl rfl 3 (by decide) fl75 (fun _ h9 => h9) rfl dX8_splitAndCount_27 ?_
  refine lv_iload_n (pc := 30) hx hb dX8_splitAndCount_30 rfl (lv_at hl 1 rfl) ?_
  obtain ⟨r_1, hC3, hF⟩ := ob1_e hF
  refine zSr (pc := 31) (As := [.int p1]) (rest := [.int swk, .ref so]) E (tJ6_bitCount_0f7a4 l D cI cZ cM cS p1 hC3) 1 gX8_splitAndCount_J6_bitCount_0f7a4 rfl rfl rfl (by decide +kernel) ⟨Nat.le_of_ble_eq_true rfl, Nat.le_of_ble_eq_true rfl⟩ hK hP [] rfl rfl hl.1 rfl (Nat.le_of_ble_eq_true rfl) dX8_splitAndCount_31 ⟨Nat.zero_le _, Nat.zero_le _⟩ ?_
  refine lv_iadd (pc := 34) hx hb dX8_splitAndCount_34 ?_
  refine va_put (pc := 35) (D := D) (ci := 6) (v := .int (swk + r_1)) (ty := .int) (C := RX6) (T := TX6) (N := 8) hx hb hts inX6 tyX6 tyX6_ok nmX6 hown hK hP hD hS 3 rfl rfl 3 (by decide) fl75 (fun _ h9 => h9) rfl (by decide +kernel) rfl rfl (Nat.le_of_ble_eq_true rfl) dX8_splitAndCount_35 (fun H locs hP hD hS => ?_)
  have hP : va_P D vwCl (wX8_splitAndCount cI cZ cM cS xo so ho ko ia fo wo zo dr rr sca sna sla sra qs ra hnx_1 hct_1 sn sl sfin (swk + r_1) scols snear slds qc_1 qf_1 rg_1) H := hP
  have hD : va_D A (wX8_splitAndCount cI cZ cM cS xo so ho ko ia fo wo zo dr rr sca sna sla sra qs ra hnx_1 hct_1 sn sl sfin (swk + r_1) scols snear slds qc_1 qf_1 rg_1) := hD
  refine lv_aload_n (pc := 38) hx hb dX8_splitAndCount_38 rfl (lv_at hl 0 rfl) ?_
  refine va_get (pc := 39) (ci := 8) (C := RX8) (T := TX8) (N := 8) hx hb hts inX8 hown hK hP 0 rfl rfl 0 (by decide) fl10 (fun _ h9 => h9) rfl dX8_splitAndCount_39 ?_
  refine va_get (pc := 42) (ci := 6) (C := RX6) (T := TX6) (N := 8) hx hb hts inX6 hown hK hP 3 rfl rfl 7 (by decide) fl69 (fun _ h9 => h9) rfl dX8_splitAndCount_42 ?_
  refine va_get (pc := 45) (ci := 5) (C := RX5) (T := TX5) (N := 2) hx hb hts inX5 hown hK hP 7 rfl rfl 1 (by decide) fl72 (fun _ h9 => h9) rfl dX8_splitAndCount_45 ?_
  cases hF
  exact hRet _ _ _ _ rfl dX8_splitAndCount_48 hP hD hS
def fX8_split (p1 : Int32) (hnx : Int32) (hct : Int32) (sn : Int32) (sl : Int32) (sfin : Int32) (swk : Int32) (scols : (Nat → Int32)) (snear : (Nat → Int32)) (slds : (Nat → Int32)) (qc : Int32) (qf : (Nat → Int32)) (rg : (Nat → zSV)) : Option (Int32 × Int32 × Int32 × Int32 × Int32 × (Nat → Int32) × (Nat → zSV)) := (ob1 (fX6_hasItemsOf p1 sn sl sfin swk) (fun r_1 => (if r_1 = (0 : Int32) then (some ((-1000000001 : Int32), hnx, hct, swk, qc, qf, rg)) else (ob7 (fX8_splitAndCount p1 hnx hct sn sl sfin swk scols snear slds qc qf rg) (fun r_2 hnx_1 hct_1 swk_1 qc_1 qf_1 rg_1 => (some (r_2, hnx_1, hct_1, swk_1, qc_1, qf_1, rg_1)))))))
abbrev wX8_split (cI cZ cM cS : ClassId) (xo so ho ko ia fo wo zo dr rr sca sna sla sra qs : Nat) (ra : Nat → zSA) (hnx : Int32) (hct : Int32) (sn : Int32) (sl : Int32) (sfin : Int32) (swk : Int32) (scols : (Nat → Int32)) (snear : (Nat → Int32)) (slds : (Nat → Int32)) (qc : Int32) (qf : (Nat → Int32)) (rg : (Nat → zSV)) : va_W := [(xo, .inr (8, [.ref so, .ref ho, .ref ko, .ref ia, .ref fo, .ref wo, .ref zo, .ref dr])), (ho, .inr (2, [.ref rr, .int hnx, .int hct])), (rr, .inl (cS, 16, .inr (.inr (.inr (.inr (fun i => some (ra i).1)))))), (so, .inr (6, [.int sn, .int sl, .int sfin, .int swk, .ref sca, .ref sna, .ref sla, .ref sra])), (sca, .inl (cI, 12, .inl scols)), (sna, .inl (cI, 12, .inl snear)), (sla, .inl (cI, 36, .inl slds)), (sra, .inr (5, [.ref qs, .int qc])), (qs, .inl (cI, 12, .inl qf))] ++ (zRing cI ra rg)
set_option maxHeartbeats 4000000 in
set_option maxRecDepth 100000 in
theorem tX8_split (l : Launch) (D : va_G) (cI cZ cM cS : ClassId) (xo so ho ko ia fo wo zo dr rr sca sna sla sra qs : Nat) (ra : Nat → zSA) (hnx : Int32) (hct : Int32) (sn : Int32) (sl : Int32) (sfin : Int32) (swk : Int32) (scols : (Nat → Int32)) (snear : (Nat → Int32)) (slds : (Nat → Int32)) (qc : Int32) (qf : (Nat → Int32)) (rg : (Nat → zSV)) (p1 : Int32) {r : Int32} {hnx' : Int32} {hct' : Int32} {swk' : Int32} {qc' : Int32} {qf' : (Nat → Int32)} {rg' : (Nat → zSV)} (hF : fX8_split p1 hnx hct sn sl sfin swk scols snear slds qc qf rg = some (r, hnx', hct', swk', qc', qf', rg')) : zCW l yX8_split wsX8_split (zRm 5 132) D (zTy cI cZ cM cS) [.ref xo, .int p1] (wX8_split cI cZ cM cS xo so ho ko ia fo wo zo dr rr sca sna sla sra qs ra hnx hct sn sl sfin swk scols snear slds qc qf rg) (wX8_split cI cZ cM cS xo so ho ko ia fo wo zo dr rr sca sna sla sra qs ra hnx' hct' sn sl sfin swk' scols snear slds qc' qf' rg') (some (.int r)) := by
  unfold fX8_split at hF
  refine zCW_ofi (cc := cX8_split) (maxL := 2) (own := RX8) (by decide) rfl rfl (Nat.le_of_ble_eq_true rfl) (fun p e s m args below meth c Q ls A E hA hK hP hD hRet hS hl => ?_)
  refine zgen (fun H locs hP hS => ?_) hP hS
  have hl : lv_has ls 2 [(0, .ref xo), (1, .int p1)] := hl
  obtain ⟨hx, hb, hml, hown, hts⟩ := id E
  have inX8 : ∀ w ∈ u_ws RX8 TX8 8, w ∈ wsX8_split := by decide +kernel
  have fl10 := hts (.fieldLink RX8 10 "SplitClasses" "now" "LSplitClasses$State;") (by decide +kernel)
  have cn118 := hts (.constant RX8 118 (-1000000001)) (by decide +kernel)
  refine lv_aload_n (pc := 0) hx hb dX8_split_0 rfl (lv_at hl 0 rfl) ?_
  refine va_get (pc := 1) (ci := 8) (C := RX8) (T := TX8) (N := 8) hx hb hts inX8 hown hK hP 0 rfl rfl 0 (by decide) fl10 (fun _ h9 => h9) rfl dX8_split_1 ?_
  refine lv_iload_n (pc := 4) hx hb dX8_split_4 rfl (lv_at hl 1 rfl) ?_
  obtain ⟨r_1, hC1, hF⟩ := ob1_e hF
  refine zVr (pc := 5) (As := [.int p1]) (rest := []) E (tX6_hasItemsOf l D cI cZ cM cS so sca sna sla sra sn sl sfin swk p1 hC1) 1 gX8_split_X6_hasItemsOf rfl rfl rfl (by decide +kernel) ⟨Nat.le_of_ble_eq_true rfl, Nat.le_of_ble_eq_true rfl⟩ hK hP [3] rfl 0 6 rfl rfl rfl rfl hl.1 rfl (Nat.le_of_ble_eq_true rfl) dX8_split_5 ⟨Nat.zero_le _, Nat.zero_le _⟩ ?_
  refine lv_if_ne (pc := 8) (tgt := 14) hx hb dX8_split_8 (by decide) (fun hc => ?_) (fun hc => ?_)
  · have hF := oif_f hF hc
    refine lv_aload_n (pc := 14) hx hb dX8_split_14 rfl (lv_at hl 0 rfl) ?_
    refine lv_iload_n (pc := 15) hx hb dX8_split_15 rfl (lv_at hl 1 rfl) ?_
    obtain ⟨r_2, hnx_1, hct_1, swk_1, qc_1, qf_1, rg_1, hC2, hF⟩ := ob7_e hF
    refine zVTT (T := (zRing cI ra rg)) (T1 := (zRing cI ra rg_1)) (pc := 16) (As := [.int p1]) (rest := []) (ws := [(xo, .inr (8, [.ref so, .ref ho, .ref ko, .ref ia, .ref fo, .ref wo, .ref zo, .ref dr])), (ho, .inr (2, [.ref rr, .int hnx, .int hct])), (rr, .inl (cS, 16, .inr (.inr (.inr (.inr (fun i => some (ra i).1)))))), (so, .inr (6, [.int sn, .int sl, .int sfin, .int swk, .ref sca, .ref sna, .ref sla, .ref sra])), (sca, .inl (cI, 12, .inl scols)), (sna, .inl (cI, 12, .inl snear)), (sla, .inl (cI, 36, .inl slds)), (sra, .inr (5, [.ref qs, .int qc])), (qs, .inl (cI, 12, .inl qf))]) (wc := [(xo, .inr (8, [.ref so, .ref ho, .ref ko, .ref ia, .ref fo, .ref wo, .ref zo, .ref dr])), (ho, .inr (2, [.ref rr, .int hnx, .int hct])), (rr, .inl (cS, 16, .inr (.inr (.inr (.inr (fun i => some (ra i).1)))))), (so, .inr (6, [.int sn, .int sl, .int sfin, .int swk, .ref sca, .ref sna, .ref sla, .ref sra])), (sca, .inl (cI, 12, .inl scols)), (sna, .inl (cI, 12, .inl snear)), (sla, .inl (cI, 36, .inl slds)), (sra, .inr (5, [.ref qs, .int qc])), (qs, .inl (cI, 12, .inl qf))]) (w1 := [(xo, .inr (8, [.ref so, .ref ho, .ref ko, .ref ia, .ref fo, .ref wo, .ref zo, .ref dr])), (ho, .inr (2, [.ref rr, .int hnx_1, .int hct_1])), (rr, .inl (cS, 16, .inr (.inr (.inr (.inr (fun i => some (ra i).1)))))), (so, .inr (6, [.int sn, .int sl, .int sfin, .int swk_1, .ref sca, .ref sna, .ref sla, .ref sra])), (sca, .inl (cI, 12, .inl scols)), (sna, .inl (cI, 12, .inl snear)), (sla, .inl (cI, 36, .inl slds)), (sra, .inr (5, [.ref qs, .int qc_1])), (qs, .inl (cI, 12, .inl qf_1))]) (wr := []) (w2 := [(xo, .inr (8, [.ref so, .ref ho, .ref ko, .ref ia, .ref fo, .ref wo, .ref zo, .ref dr])), (ho, .inr (2, [.ref rr, .int hnx_1, .int hct_1])), (rr, .inl (cS, 16, .inr (.inr (.inr (.inr (fun i => some (ra i).1)))))), (so, .inr (6, [.int sn, .int sl, .int sfin, .int swk_1, .ref sca, .ref sna, .ref sla, .ref sra])), (sca, .inl (cI, 12, .inl scols)), (sna, .inl (cI, 12, .inl snear)), (sla, .inl (cI, 36, .inl slds)), (sra, .inr (5, [.ref qs, .int qc_1])), (qs, .inl (cI, 12, .inl qf_1))]) E (tX8_splitAndCount l D cI cZ cM cS xo so ho ko ia fo wo zo dr rr sca sna sla sra qs ra hnx hct sn sl sfin swk scols snear slds qc qf rg p1 hC2) 1 gX8_split_X8_splitAndCount rfl rfl rfl (by decide +kernel) ⟨Nat.le_of_ble_eq_true rfl, Nat.le_of_ble_eq_true rfl⟩ hK hP hD hS hA 9 [0, 1, 2, 3, 4, 5, 6, 7, 8] rfl rfl (by decide) rfl rfl 0 8 rfl rfl rfl rfl hl.1 rfl (Nat.le_of_ble_eq_true rfl) dX8_split_16 ⟨Nat.zero_le _, Nat.zero_le _⟩ (fun H locs hP hD hS => ?_)
    have hP : va_P D vwCl (wX8_split cI cZ cM cS xo so ho ko ia fo wo zo dr rr sca sna sla sra qs ra hnx_1 hct_1 sn sl sfin swk_1 scols snear slds qc_1 qf_1 rg_1) H := hP
    have hD : va_D A (wX8_split cI cZ cM cS xo so ho ko ia fo wo zo dr rr sca sna sla sra qs ra hnx_1 hct_1 sn sl sfin swk_1 scols snear slds qc_1 qf_1 rg_1) := hD
    refine W.eq (g2 := F0 m 19 ls [.int r_2]) rfl ?_
    cases hF
    exact hRet _ _ _ _ rfl dX8_split_19 hP hD hS
  · have hF := oif_t hF hc
    refine lv_ldc (v := (-1000000001 : Int32)) (pc := 11) hx hb hown cn118 dX8_split_11 ?_
    cases hF
    exact hRet _ _ _ _ rfl dX8_split_13 hP hD hS
def fX8_by (p1 : Int32) (p2 : Int32) (p3 : Int32) (hnx : Int32) (hct : Int32) (sn : Int32) (sl : Int32) (sfin : Int32) (swk : Int32) (scols : (Nat → Int32)) (snear : (Nat → Int32)) (slds : (Nat → Int32)) (qc : Int32) (qf : (Nat → Int32)) (rg : (Nat → zSV)) : Option (Int32 × Int32 × Int32 × Int32 × Int32 × (Nat → Int32) × (Nat → zSV)) := (ob1 (fX8_refusalOfSet p1 p2 p3 sn sl sfin swk qc qf) (fun r_1 => (if r_1 = (-1 : Int32) then (ob1 (fX6_setOfKind p1 p2 p3 sn sl sfin swk scols snear slds qc qf) (fun r_2 => (ob7 (fX8_splitAndCount r_2 hnx hct sn sl sfin swk scols snear slds qc qf rg) (fun r_3 hnx_1 hct_1 swk_1 qc_1 qf_1 rg_1 => (some (r_3, hnx_1, hct_1, swk_1, qc_1, qf_1, rg_1)))))) else (some (r_1, hnx, hct, swk, qc, qf, rg)))))
abbrev wX8_by (cI cZ cM cS : ClassId) (xo so ho ko ia fo wo zo dr rr sca sna sla sra qs : Nat) (ra : Nat → zSA) (hnx : Int32) (hct : Int32) (sn : Int32) (sl : Int32) (sfin : Int32) (swk : Int32) (scols : (Nat → Int32)) (snear : (Nat → Int32)) (slds : (Nat → Int32)) (qc : Int32) (qf : (Nat → Int32)) (rg : (Nat → zSV)) : va_W := [(xo, .inr (8, [.ref so, .ref ho, .ref ko, .ref ia, .ref fo, .ref wo, .ref zo, .ref dr])), (ho, .inr (2, [.ref rr, .int hnx, .int hct])), (rr, .inl (cS, 16, .inr (.inr (.inr (.inr (fun i => some (ra i).1)))))), (so, .inr (6, [.int sn, .int sl, .int sfin, .int swk, .ref sca, .ref sna, .ref sla, .ref sra])), (sca, .inl (cI, 12, .inl scols)), (sna, .inl (cI, 12, .inl snear)), (sla, .inl (cI, 36, .inl slds)), (sra, .inr (5, [.ref qs, .int qc])), (qs, .inl (cI, 12, .inl qf))] ++ (zRing cI ra rg)
set_option maxHeartbeats 4000000 in
set_option maxRecDepth 100000 in
theorem tX8_by (l : Launch) (D : va_G) (cI cZ cM cS : ClassId) (xo so ho ko ia fo wo zo dr rr sca sna sla sra qs : Nat) (ra : Nat → zSA) (hnx : Int32) (hct : Int32) (sn : Int32) (sl : Int32) (sfin : Int32) (swk : Int32) (scols : (Nat → Int32)) (snear : (Nat → Int32)) (slds : (Nat → Int32)) (qc : Int32) (qf : (Nat → Int32)) (rg : (Nat → zSV)) (p1 : Int32) (p2 : Int32) (p3 : Int32) {r : Int32} {hnx' : Int32} {hct' : Int32} {swk' : Int32} {qc' : Int32} {qf' : (Nat → Int32)} {rg' : (Nat → zSV)} (hF : fX8_by p1 p2 p3 hnx hct sn sl sfin swk scols snear slds qc qf rg = some (r, hnx', hct', swk', qc', qf', rg')) : zCW l yX8_by wsX8_by (zRm 5 132) D (zTy cI cZ cM cS) [.ref xo, .int p1, .int p2, .int p3] (wX8_by cI cZ cM cS xo so ho ko ia fo wo zo dr rr sca sna sla sra qs ra hnx hct sn sl sfin swk scols snear slds qc qf rg) (wX8_by cI cZ cM cS xo so ho ko ia fo wo zo dr rr sca sna sla sra qs ra hnx' hct' sn sl sfin swk' scols snear slds qc' qf' rg') (some (.int r)) := by
  unfold fX8_by at hF
  refine zCW_ofi (cc := cX8_by) (maxL := 5) (own := RX8) (by decide) rfl rfl (Nat.le_of_ble_eq_true rfl) (fun p e s m args below meth c Q ls A E hA hK hP hD hRet hS hl => ?_)
  refine zgen (fun H locs hP hS => ?_) hP hS
  have hl : lv_has ls 5 [(0, .ref xo), (1, .int p1), (2, .int p2), (3, .int p3)] := hl
  obtain ⟨hx, hb, hml, hown, hts⟩ := id E
  have inX6 : ∀ w ∈ u_ws RX6 TX6 8, w ∈ wsX8_by := by decide +kernel
  have inX8 : ∀ w ∈ u_ws RX8 TX8 8, w ∈ wsX8_by := by decide +kernel
  have fl10 := hts (.fieldLink RX8 10 "SplitClasses" "now" "LSplitClasses$State;") (by decide +kernel)
  have fl69 := hts (.fieldLink RX8 69 "SplitClasses$State" "row" "LSplitClasses$Row;") (by decide +kernel)
  refine lv_aload_n (pc := 0) hx hb dX8_by_0 rfl (lv_at hl 0 rfl) ?_
  refine lv_iload_n (pc := 1) hx hb dX8_by_1 rfl (lv_at hl 1 rfl) ?_
  refine lv_iload_n (pc := 2) hx hb dX8_by_2 rfl (lv_at hl 2 rfl) ?_
  refine lv_iload_n (pc := 3) hx hb dX8_by_3 rfl (lv_at hl 3 rfl) ?_
  obtain ⟨r_1, hC1, hF⟩ := ob1_e hF
  refine zVr (pc := 4) (As := [.int p1, .int p2, .int p3]) (rest := []) E (tX8_refusalOfSet l D cI cZ cM cS xo so ho ko ia fo wo zo dr sca sna sla sra qs sn sl sfin swk qc qf p1 p2 p3 hC1) 3 gX8_by_X8_refusalOfSet rfl rfl rfl (by decide +kernel) ⟨Nat.le_of_ble_eq_true rfl, Nat.le_of_ble_eq_true rfl⟩ hK hP [0, 3, 7, 8] rfl 0 8 rfl rfl rfl rfl hl.1 rfl (Nat.le_of_ble_eq_true rfl) dX8_by_4 ⟨Nat.zero_le _, Nat.zero_le _⟩ ?_
  refine lv_istore (lv' := [(4, .int r_1), (0, .ref xo), (1, .int p1), (2, .int p2), (3, .int p3)]) (pc := 7) hx hb dX8_by_7 hl (by decide) rfl (fun ls hl => ?_)
  refine lv_iload (pc := 9) hx hb dX8_by_9 (lv_at hl 0 rfl) ?_
  refine lv_iconst (v := (-1 : Int32)) (pc := 11) hx hb dX8_by_11 (by decide) ?_
  refine lv_icmp_eq (pc := 12) (tgt := 20) hx hb dX8_by_12 (by decide) (fun hc => ?_) (fun hc => ?_)
  · have hF := oif_t hF hc
    refine lv_aload_n (pc := 20) hx hb dX8_by_20 rfl (lv_at hl 1 rfl) ?_
    refine lv_aload_n (pc := 21) hx hb dX8_by_21 rfl (lv_at hl 1 rfl) ?_
    refine va_get (pc := 22) (ci := 8) (C := RX8) (T := TX8) (N := 8) hx hb hts inX8 hown hK hP 0 rfl rfl 0 (by decide) fl10 (fun _ h9 => h9) rfl dX8_by_22 ?_
    refine lv_aload_n (pc := 25) hx hb dX8_by_25 rfl (lv_at hl 1 rfl) ?_
    refine va_get (pc := 26) (ci := 8) (C := RX8) (T := TX8) (N := 8) hx hb hts inX8 hown hK hP 0 rfl rfl 0 (by decide) fl10 (fun _ h9 => h9) rfl dX8_by_26 ?_
    refine va_get (pc := 29) (ci := 6) (C := RX6) (T := TX6) (N := 8) hx hb hts inX6 hown hK hP 3 rfl rfl 7 (by decide) fl69 (fun _ h9 => h9) rfl dX8_by_29 ?_
    refine lv_iload_n (pc := 32) hx hb dX8_by_32 rfl (lv_at hl 2 rfl) ?_
    refine lv_iload_n (pc := 33) hx hb dX8_by_33 rfl (lv_at hl 3 rfl) ?_
    refine lv_iload_n (pc := 34) hx hb dX8_by_34 rfl (lv_at hl 4 rfl) ?_
    obtain ⟨r_2, hC2, hF⟩ := ob1_e hF
    refine zVr (pc := 35) (As := [.ref sra, .int p1, .int p2, .int p3]) (rest := [.ref xo]) E (tX6_setOfKind l D cI cZ cM cS so sca sna sla sra sra qs sn sl sfin swk scols snear slds qc qf p1 p2 p3 hC2) 4 gX8_by_X6_setOfKind rfl rfl rfl (by decide +kernel) ⟨Nat.le_of_ble_eq_true rfl, Nat.le_of_ble_eq_true rfl⟩ hK hP [3, 4, 5, 6, 7, 8] rfl 0 6 rfl rfl rfl rfl hl.1 rfl (Nat.le_of_ble_eq_true rfl) dX8_by_35 ⟨Nat.zero_le _, Nat.zero_le _⟩ ?_
    obtain ⟨r_3, hnx_1, hct_1, swk_1, qc_1, qf_1, rg_1, hC3, hF⟩ := ob7_e hF
    refine zVTT (T := (zRing cI ra rg)) (T1 := (zRing cI ra rg_1)) (pc := 38) (As := [.int r_2]) (rest := []) (ws := [(xo, .inr (8, [.ref so, .ref ho, .ref ko, .ref ia, .ref fo, .ref wo, .ref zo, .ref dr])), (ho, .inr (2, [.ref rr, .int hnx, .int hct])), (rr, .inl (cS, 16, .inr (.inr (.inr (.inr (fun i => some (ra i).1)))))), (so, .inr (6, [.int sn, .int sl, .int sfin, .int swk, .ref sca, .ref sna, .ref sla, .ref sra])), (sca, .inl (cI, 12, .inl scols)), (sna, .inl (cI, 12, .inl snear)), (sla, .inl (cI, 36, .inl slds)), (sra, .inr (5, [.ref qs, .int qc])), (qs, .inl (cI, 12, .inl qf))]) (wc := [(xo, .inr (8, [.ref so, .ref ho, .ref ko, .ref ia, .ref fo, .ref wo, .ref zo, .ref dr])), (ho, .inr (2, [.ref rr, .int hnx, .int hct])), (rr, .inl (cS, 16, .inr (.inr (.inr (.inr (fun i => some (ra i).1)))))), (so, .inr (6, [.int sn, .int sl, .int sfin, .int swk, .ref sca, .ref sna, .ref sla, .ref sra])), (sca, .inl (cI, 12, .inl scols)), (sna, .inl (cI, 12, .inl snear)), (sla, .inl (cI, 36, .inl slds)), (sra, .inr (5, [.ref qs, .int qc])), (qs, .inl (cI, 12, .inl qf))]) (w1 := [(xo, .inr (8, [.ref so, .ref ho, .ref ko, .ref ia, .ref fo, .ref wo, .ref zo, .ref dr])), (ho, .inr (2, [.ref rr, .int hnx_1, .int hct_1])), (rr, .inl (cS, 16, .inr (.inr (.inr (.inr (fun i => some (ra i).1)))))), (so, .inr (6, [.int sn, .int sl, .int sfin, .int swk_1, .ref sca, .ref sna, .ref sla, .ref sra])), (sca, .inl (cI, 12, .inl scols)), (sna, .inl (cI, 12, .inl snear)), (sla, .inl (cI, 36, .inl slds)), (sra, .inr (5, [.ref qs, .int qc_1])), (qs, .inl (cI, 12, .inl qf_1))]) (wr := []) (w2 := [(xo, .inr (8, [.ref so, .ref ho, .ref ko, .ref ia, .ref fo, .ref wo, .ref zo, .ref dr])), (ho, .inr (2, [.ref rr, .int hnx_1, .int hct_1])), (rr, .inl (cS, 16, .inr (.inr (.inr (.inr (fun i => some (ra i).1)))))), (so, .inr (6, [.int sn, .int sl, .int sfin, .int swk_1, .ref sca, .ref sna, .ref sla, .ref sra])), (sca, .inl (cI, 12, .inl scols)), (sna, .inl (cI, 12, .inl snear)), (sla, .inl (cI, 36, .inl slds)), (sra, .inr (5, [.ref qs, .int qc_1])), (qs, .inl (cI, 12, .inl qf_1))]) E (tX8_splitAndCount l D cI cZ cM cS xo so ho ko ia fo wo zo dr rr sca sna sla sra qs ra hnx hct sn sl sfin swk scols snear slds qc qf rg r_2 hC3) 1 gX8_by_X8_splitAndCount rfl rfl rfl (by decide +kernel) ⟨Nat.le_of_ble_eq_true rfl, Nat.le_of_ble_eq_true rfl⟩ hK hP hD hS hA 9 [0, 1, 2, 3, 4, 5, 6, 7, 8] rfl rfl (by decide) rfl rfl 0 8 rfl rfl rfl rfl hl.1 rfl (Nat.le_of_ble_eq_true rfl) dX8_by_38 ⟨Nat.zero_le _, Nat.zero_le _⟩ (fun H locs hP hD hS => ?_)
    have hP : va_P D vwCl (wX8_by cI cZ cM cS xo so ho ko ia fo wo zo dr rr sca sna sla sra qs ra hnx_1 hct_1 sn sl sfin swk_1 scols snear slds qc_1 qf_1 rg_1) H := hP
    have hD : va_D A (wX8_by cI cZ cM cS xo so ho ko ia fo wo zo dr rr sca sna sla sra qs ra hnx_1 hct_1 sn sl sfin swk_1 scols snear slds qc_1 qf_1 rg_1) := hD
    refine W.eq (g2 := F0 m 41 ls [.int r_3]) rfl ?_
    cases hF
    exact hRet _ _ _ _ rfl dX8_by_41 hP hD hS
  · have hF := oif_f hF hc
    refine lv_iload (pc := 15) hx hb dX8_by_15 (lv_at hl 0 rfl) ?_
    refine lv_goto (pc := 17) (tgt := 41) hx hb dX8_by_17 (by decide) ?_
    cases hF
    exact hRet _ _ _ _ rfl dX8_by_41 hP hD hS
def fX8_refine (p1 : Int32) (hnx : Int32) (hct : Int32) (sn : Int32) (sl : Int32) (sfin : Int32) (swk : Int32) (scols : (Nat → Int32)) (snear : (Nat → Int32)) (slds : (Nat → Int32)) (qc : Int32) (qf : (Nat → Int32)) (bc : Int32) (bf : (Nat → Int32)) (rg : (Nat → zSV)) : Option (Int32 × Int32 × Int32 × Int32 × (Nat → Int32) × Int32 × (Nat → Int32) × (Nat → zSV)) := (ob1 (fX8_isRefinedKind p1) (fun r_1 => (if r_1 = (0 : Int32) then (some ((-1000000002 : Int32), hnx, hct, qc, qf, bc, bf, rg)) else (ob3 (fX2_remember hnx hct sn sl sfin swk scols snear slds qc qf rg) (fun hnx_1 hct_1 rg_1 => (ob4 (fX4_refineRow p1 bc bf sn sl sfin swk scols snear slds qc qf) (fun bc_1 bf_1 qc_1 qf_1 => (some (qc_1, hnx_1, hct_1, qc_1, qf_1, bc_1, bf_1, rg_1)))))))))
abbrev wX8_refine (cI cZ cM cS : ClassId) (xo so ho ko ia fo wo zo dr rr sca sna sla sra qs bo bs : Nat) (ra : Nat → zSA) (hnx : Int32) (hct : Int32) (sn : Int32) (sl : Int32) (sfin : Int32) (swk : Int32) (scols : (Nat → Int32)) (snear : (Nat → Int32)) (slds : (Nat → Int32)) (qc : Int32) (qf : (Nat → Int32)) (bc : Int32) (bf : (Nat → Int32)) (rg : (Nat → zSV)) : va_W := [(xo, .inr (8, [.ref so, .ref ho, .ref ko, .ref ia, .ref fo, .ref wo, .ref zo, .ref dr])), (ho, .inr (2, [.ref rr, .int hnx, .int hct])), (rr, .inl (cS, 16, .inr (.inr (.inr (.inr (fun i => some (ra i).1)))))), (so, .inr (6, [.int sn, .int sl, .int sfin, .int swk, .ref sca, .ref sna, .ref sla, .ref sra])), (sca, .inl (cI, 12, .inl scols)), (sna, .inl (cI, 12, .inl snear)), (sla, .inl (cI, 36, .inl slds)), (sra, .inr (5, [.ref qs, .int qc])), (qs, .inl (cI, 12, .inl qf)), (fo, .inr (4, [.ref bo])), (bo, .inr (5, [.ref bs, .int bc])), (bs, .inl (cI, 12, .inl bf))] ++ (zRing cI ra rg)
set_option maxHeartbeats 4000000 in
set_option maxRecDepth 100000 in
theorem tX8_refine (l : Launch) (D : va_G) (cI cZ cM cS : ClassId) (xo so ho ko ia fo wo zo dr rr sca sna sla sra qs bo bs : Nat) (ra : Nat → zSA) (hnx : Int32) (hct : Int32) (sn : Int32) (sl : Int32) (sfin : Int32) (swk : Int32) (scols : (Nat → Int32)) (snear : (Nat → Int32)) (slds : (Nat → Int32)) (qc : Int32) (qf : (Nat → Int32)) (bc : Int32) (bf : (Nat → Int32)) (rg : (Nat → zSV)) (p1 : Int32) {r : Int32} {hnx' : Int32} {hct' : Int32} {qc' : Int32} {qf' : (Nat → Int32)} {bc' : Int32} {bf' : (Nat → Int32)} {rg' : (Nat → zSV)} (hF : fX8_refine p1 hnx hct sn sl sfin swk scols snear slds qc qf bc bf rg = some (r, hnx', hct', qc', qf', bc', bf', rg')) : zCW l yX8_refine wsX8_refine (zRm 6 139) D (zTy cI cZ cM cS) [.ref xo, .int p1] (wX8_refine cI cZ cM cS xo so ho ko ia fo wo zo dr rr sca sna sla sra qs bo bs ra hnx hct sn sl sfin swk scols snear slds qc qf bc bf rg) (wX8_refine cI cZ cM cS xo so ho ko ia fo wo zo dr rr sca sna sla sra qs bo bs ra hnx' hct' sn sl sfin swk scols snear slds qc' qf' bc' bf' rg') (some (.int r)) := by
  unfold fX8_refine at hF
  refine zCW_ofi (cc := cX8_refine) (maxL := 2) (own := RX8) (by decide) rfl rfl (Nat.le_of_ble_eq_true rfl) (fun p e s m args below meth c Q ls A E hA hK hP hD hRet hS hl => ?_)
  refine zgen (fun H locs hP hS => ?_) hP hS
  have hl : lv_has ls 2 [(0, .ref xo), (1, .int p1)] := hl
  obtain ⟨hx, hb, hml, hown, hts⟩ := id E
  have inX5 : ∀ w ∈ u_ws RX5 TX5 2, w ∈ wsX8_refine := by decide +kernel
  have inX6 : ∀ w ∈ u_ws RX6 TX6 8, w ∈ wsX8_refine := by decide +kernel
  have inX8 : ∀ w ∈ u_ws RX8 TX8 8, w ∈ wsX8_refine := by decide +kernel
  have fl10 := hts (.fieldLink RX8 10 "SplitClasses" "now" "LSplitClasses$State;") (by decide +kernel)
  have fl19 := hts (.fieldLink RX8 19 "SplitClasses" "history" "LSplitClasses$History;") (by decide +kernel)
  have fl40 := hts (.fieldLink RX8 40 "SplitClasses" "refiner" "LSplitClasses$Refiner;") (by decide +kernel)
  have fl69 := hts (.fieldLink RX8 69 "SplitClasses$State" "row" "LSplitClasses$Row;") (by decide +kernel)
  have fl72 := hts (.fieldLink RX8 72 "SplitClasses$Row" "count" "I") (by decide +kernel)
  have cn113 := hts (.constant RX8 113 (-1000000002)) (by decide +kernel)
  refine lv_iload_n (pc := 0) hx hb dX8_refine_0 rfl (lv_at hl 1 rfl) ?_
  obtain ⟨r_1, hC1, hF⟩ := ob1_e hF
  refine zSr (pc := 1) (As := [.int p1]) (rest := []) E (tX8_isRefinedKind l D cI cZ cM cS p1 hC1) 1 gX8_refine_X8_isRefinedKind rfl rfl rfl (by decide +kernel) ⟨Nat.le_of_ble_eq_true rfl, Nat.le_of_ble_eq_true rfl⟩ hK hP [] rfl rfl hl.1 rfl (Nat.le_of_ble_eq_true rfl) dX8_refine_1 ⟨Nat.zero_le _, Nat.zero_le _⟩ ?_
  refine lv_if_ne (pc := 4) (tgt := 10) hx hb dX8_refine_4 (by decide) (fun hc => ?_) (fun hc => ?_)
  · have hF := oif_f hF hc
    refine lv_aload_n (pc := 10) hx hb dX8_refine_10 rfl (lv_at hl 0 rfl) ?_
    refine va_get (pc := 11) (ci := 8) (C := RX8) (T := TX8) (N := 8) hx hb hts inX8 hown hK hP 0 rfl rfl 1 (by decide) fl19 (fun _ h9 => h9) rfl dX8_refine_11 ?_
    refine lv_aload_n (pc := 14) hx hb dX8_refine_14 rfl (lv_at hl 0 rfl) ?_
    refine va_get (pc := 15) (ci := 8) (C := RX8) (T := TX8) (N := 8) hx hb hts inX8 hown hK hP 0 rfl rfl 0 (by decide) fl10 (fun _ h9 => h9) rfl dX8_refine_15 ?_
    obtain ⟨hnx_1, hct_1, rg_1, hC2, hF⟩ := ob3_e hF
    refine zVTT (T := (zRing cI ra rg)) (T1 := (zRing cI ra rg_1)) (pc := 18) (As := [.ref so]) (rest := []) (ws := [(xo, .inr (8, [.ref so, .ref ho, .ref ko, .ref ia, .ref fo, .ref wo, .ref zo, .ref dr])), (ho, .inr (2, [.ref rr, .int hnx, .int hct])), (rr, .inl (cS, 16, .inr (.inr (.inr (.inr (fun i => some (ra i).1)))))), (so, .inr (6, [.int sn, .int sl, .int sfin, .int swk, .ref sca, .ref sna, .ref sla, .ref sra])), (sca, .inl (cI, 12, .inl scols)), (sna, .inl (cI, 12, .inl snear)), (sla, .inl (cI, 36, .inl slds)), (sra, .inr (5, [.ref qs, .int qc])), (qs, .inl (cI, 12, .inl qf)), (fo, .inr (4, [.ref bo])), (bo, .inr (5, [.ref bs, .int bc])), (bs, .inl (cI, 12, .inl bf))]) (wc := [(ho, .inr (2, [.ref rr, .int hnx, .int hct])), (rr, .inl (cS, 16, .inr (.inr (.inr (.inr (fun i => some (ra i).1)))))), (so, .inr (6, [.int sn, .int sl, .int sfin, .int swk, .ref sca, .ref sna, .ref sla, .ref sra])), (sca, .inl (cI, 12, .inl scols)), (sna, .inl (cI, 12, .inl snear)), (sla, .inl (cI, 36, .inl slds)), (sra, .inr (5, [.ref qs, .int qc])), (qs, .inl (cI, 12, .inl qf))]) (w1 := [(ho, .inr (2, [.ref rr, .int hnx_1, .int hct_1])), (rr, .inl (cS, 16, .inr (.inr (.inr (.inr (fun i => some (ra i).1)))))), (so, .inr (6, [.int sn, .int sl, .int sfin, .int swk, .ref sca, .ref sna, .ref sla, .ref sra])), (sca, .inl (cI, 12, .inl scols)), (sna, .inl (cI, 12, .inl snear)), (sla, .inl (cI, 36, .inl slds)), (sra, .inr (5, [.ref qs, .int qc])), (qs, .inl (cI, 12, .inl qf))]) (wr := [(xo, .inr (8, [.ref so, .ref ho, .ref ko, .ref ia, .ref fo, .ref wo, .ref zo, .ref dr])), (fo, .inr (4, [.ref bo])), (bo, .inr (5, [.ref bs, .int bc])), (bs, .inl (cI, 12, .inl bf))]) (w2 := [(xo, .inr (8, [.ref so, .ref ho, .ref ko, .ref ia, .ref fo, .ref wo, .ref zo, .ref dr])), (ho, .inr (2, [.ref rr, .int hnx_1, .int hct_1])), (rr, .inl (cS, 16, .inr (.inr (.inr (.inr (fun i => some (ra i).1)))))), (so, .inr (6, [.int sn, .int sl, .int sfin, .int swk, .ref sca, .ref sna, .ref sla, .ref sra])), (sca, .inl (cI, 12, .inl scols)), (sna, .inl (cI, 12, .inl snear)), (sla, .inl (cI, 36, .inl slds)), (sra, .inr (5, [.ref qs, .int qc])), (qs, .inl (cI, 12, .inl qf)), (fo, .inr (4, [.ref bo])), (bo, .inr (5, [.ref bs, .int bc])), (bs, .inl (cI, 12, .inl bf))]) E (tX2_remember l D cI cZ cM cS ho rr so sca sna sla sra qs ra hnx hct sn sl sfin swk scols snear slds qc qf rg hC2) 1 gX8_refine_X2_remember rfl rfl rfl (by decide +kernel) ⟨Nat.le_of_ble_eq_true rfl, Nat.le_of_ble_eq_true rfl⟩ hK hP hD hS hA 12 [1, 2, 3, 4, 5, 6, 7, 8, 0, 9, 10, 11] rfl rfl (by decide) rfl rfl 0 2 rfl rfl rfl rfl hl.1 rfl (Nat.le_of_ble_eq_true rfl) dX8_refine_18 ⟨Nat.zero_le _, Nat.zero_le _⟩ (fun H locs hP hD hS => ?_)
    have hP : va_P D vwCl (wX8_refine cI cZ cM cS xo so ho ko ia fo wo zo dr rr sca sna sla sra qs bo bs ra hnx_1 hct_1 sn sl sfin swk scols snear slds qc qf bc bf rg_1) H := hP
    have hD : va_D A (wX8_refine cI cZ cM cS xo so ho ko ia fo wo zo dr rr sca sna sla sra qs bo bs ra hnx_1 hct_1 sn sl sfin swk scols snear slds qc qf bc bf rg_1) := hD
    refine W.eq (g2 := F0 m 21 ls []) rfl ?_
    refine lv_aload_n (pc := 21) hx hb dX8_refine_21 rfl (lv_at hl 0 rfl) ?_
    refine va_get (pc := 22) (ci := 8) (C := RX8) (T := TX8) (N := 8) hx hb hts inX8 hown hK hP 0 rfl rfl 4 (by decide) fl40 (fun _ h9 => h9) rfl dX8_refine_22 ?_
    refine lv_aload_n (pc := 25) hx hb dX8_refine_25 rfl (lv_at hl 0 rfl) ?_
    refine va_get (pc := 26) (ci := 8) (C := RX8) (T := TX8) (N := 8) hx hb hts inX8 hown hK hP 0 rfl rfl 0 (by decide) fl10 (fun _ h9 => h9) rfl dX8_refine_26 ?_
    refine lv_aload_n (pc := 29) hx hb dX8_refine_29 rfl (lv_at hl 0 rfl) ?_
    refine va_get (pc := 30) (ci := 8) (C := RX8) (T := TX8) (N := 8) hx hb hts inX8 hown hK hP 0 rfl rfl 0 (by decide) fl10 (fun _ h9 => h9) rfl dX8_refine_30 ?_
    refine va_get (pc := 33) (ci := 6) (C := RX6) (T := TX6) (N := 8) hx hb hts inX6 hown hK hP 3 rfl rfl 7 (by decide) fl69 (fun _ h9 => h9) rfl dX8_refine_33 ?_
    refine lv_iload_n (pc := 36) hx hb dX8_refine_36 rfl (lv_at hl 1 rfl) ?_
    obtain ⟨bc_1, bf_1, qc_1, qf_1, hC3, hF⟩ := ob4_e hF
    refine zVT (T := (zRing cI ra rg_1)) (pc := 37) (As := [.ref so, .ref sra, .int p1]) (rest := []) (ws := [(xo, .inr (8, [.ref so, .ref ho, .ref ko, .ref ia, .ref fo, .ref wo, .ref zo, .ref dr])), (ho, .inr (2, [.ref rr, .int hnx_1, .int hct_1])), (rr, .inl (cS, 16, .inr (.inr (.inr (.inr (fun i => some (ra i).1)))))), (so, .inr (6, [.int sn, .int sl, .int sfin, .int swk, .ref sca, .ref sna, .ref sla, .ref sra])), (sca, .inl (cI, 12, .inl scols)), (sna, .inl (cI, 12, .inl snear)), (sla, .inl (cI, 36, .inl slds)), (sra, .inr (5, [.ref qs, .int qc])), (qs, .inl (cI, 12, .inl qf)), (fo, .inr (4, [.ref bo])), (bo, .inr (5, [.ref bs, .int bc])), (bs, .inl (cI, 12, .inl bf))]) (wc := [(fo, .inr (4, [.ref bo])), (bo, .inr (5, [.ref bs, .int bc])), (bs, .inl (cI, 12, .inl bf)), (so, .inr (6, [.int sn, .int sl, .int sfin, .int swk, .ref sca, .ref sna, .ref sla, .ref sra])), (sca, .inl (cI, 12, .inl scols)), (sna, .inl (cI, 12, .inl snear)), (sla, .inl (cI, 36, .inl slds)), (sra, .inr (5, [.ref qs, .int qc])), (qs, .inl (cI, 12, .inl qf))]) (w1 := [(fo, .inr (4, [.ref bo])), (bo, .inr (5, [.ref bs, .int bc_1])), (bs, .inl (cI, 12, .inl bf_1)), (so, .inr (6, [.int sn, .int sl, .int sfin, .int swk, .ref sca, .ref sna, .ref sla, .ref sra])), (sca, .inl (cI, 12, .inl scols)), (sna, .inl (cI, 12, .inl snear)), (sla, .inl (cI, 36, .inl slds)), (sra, .inr (5, [.ref qs, .int qc_1])), (qs, .inl (cI, 12, .inl qf_1))]) (wr := [(xo, .inr (8, [.ref so, .ref ho, .ref ko, .ref ia, .ref fo, .ref wo, .ref zo, .ref dr])), (ho, .inr (2, [.ref rr, .int hnx_1, .int hct_1])), (rr, .inl (cS, 16, .inr (.inr (.inr (.inr (fun i => some (ra i).1))))))]) (w2 := [(xo, .inr (8, [.ref so, .ref ho, .ref ko, .ref ia, .ref fo, .ref wo, .ref zo, .ref dr])), (ho, .inr (2, [.ref rr, .int hnx_1, .int hct_1])), (rr, .inl (cS, 16, .inr (.inr (.inr (.inr (fun i => some (ra i).1)))))), (so, .inr (6, [.int sn, .int sl, .int sfin, .int swk, .ref sca, .ref sna, .ref sla, .ref sra])), (sca, .inl (cI, 12, .inl scols)), (sna, .inl (cI, 12, .inl snear)), (sla, .inl (cI, 36, .inl slds)), (sra, .inr (5, [.ref qs, .int qc_1])), (qs, .inl (cI, 12, .inl qf_1)), (fo, .inr (4, [.ref bo])), (bo, .inr (5, [.ref bs, .int bc_1])), (bs, .inl (cI, 12, .inl bf_1))]) E (tX4_refineRow l D cI cZ cM cS fo bo bs so sca sna sla sra sra qs bc bf sn sl sfin swk scols snear slds qc qf p1 hC3) 3 gX8_refine_X4_refineRow rfl rfl rfl (by decide +kernel) ⟨Nat.le_of_ble_eq_true rfl, Nat.le_of_ble_eq_true rfl⟩ hK hP hD hS hA 12 [9, 10, 11, 3, 4, 5, 6, 7, 8, 0, 1, 2] rfl rfl (by decide) rfl rfl 0 4 rfl rfl rfl rfl hl.1 rfl (Nat.le_of_ble_eq_true rfl) dX8_refine_37 ⟨Nat.zero_le _, Nat.zero_le _⟩ (fun H locs hP hD hS => ?_)
    have hP : va_P D vwCl (wX8_refine cI cZ cM cS xo so ho ko ia fo wo zo dr rr sca sna sla sra qs bo bs ra hnx_1 hct_1 sn sl sfin swk scols snear slds qc_1 qf_1 bc_1 bf_1 rg_1) H := hP
    have hD : va_D A (wX8_refine cI cZ cM cS xo so ho ko ia fo wo zo dr rr sca sna sla sra qs bo bs ra hnx_1 hct_1 sn sl sfin swk scols snear slds qc_1 qf_1 bc_1 bf_1 rg_1) := hD
    refine W.eq (g2 := F0 m 40 ls []) rfl ?_
    refine lv_aload_n (pc := 40) hx hb dX8_refine_40 rfl (lv_at hl 0 rfl) ?_
    refine va_get (pc := 41) (ci := 8) (C := RX8) (T := TX8) (N := 8) hx hb hts inX8 hown hK hP 0 rfl rfl 0 (by decide) fl10 (fun _ h9 => h9) rfl dX8_refine_41 ?_
    refine va_get (pc := 44) (ci := 6) (C := RX6) (T := TX6) (N := 8) hx hb hts inX6 hown hK hP 3 rfl rfl 7 (by decide) fl69 (fun _ h9 => h9) rfl dX8_refine_44 ?_
    refine va_get (pc := 47) (ci := 5) (C := RX5) (T := TX5) (N := 2) hx hb hts inX5 hown hK hP 7 rfl rfl 1 (by decide) fl72 (fun _ h9 => h9) rfl dX8_refine_47 ?_
    cases hF
    exact hRet _ _ _ _ rfl dX8_refine_50 hP hD hS
  · have hF := oif_t hF hc
    refine lv_ldc (v := (-1000000002 : Int32)) (pc := 7) hx hb hown cn113 dX8_refine_7 ?_
    cases hF
    exact hRet _ _ _ _ rfl dX8_refine_9 hP hD hS
def fX8_join (p1 : Int32) (hnx : Int32) (hct : Int32) (sn : Int32) (sl : Int32) (sfin : Int32) (swk : Int32) (scols : (Nat → Int32)) (snear : (Nat → Int32)) (slds : (Nat → Int32)) (qc : Int32) (qf : (Nat → Int32)) (rg : (Nat → zSV)) : Option (Int32 × Int32 × Int32 × Int32 × (Nat → Int32) × (Nat → zSV)) := (if p1 < (0 : Int32) then (some ((-1000000001 : Int32), hnx, hct, qc, qf, rg)) else (if p1 < (qc - (1 : Int32)) then (ob3 (fX2_remember hnx hct sn sl sfin swk scols snear slds qc qf rg) (fun hnx_1 hct_1 rg_1 => (ob2 (fX5_mergeWithNext p1 qc qf) (fun qc_1 qf_1 => (some (qc_1, hnx_1, hct_1, qc_1, qf_1, rg_1)))))) else (some ((-1000000001 : Int32), hnx, hct, qc, qf, rg))))
abbrev wX8_join (cI cZ cM cS : ClassId) (xo so ho ko ia fo wo zo dr rr sca sna sla sra qs : Nat) (ra : Nat → zSA) (hnx : Int32) (hct : Int32) (sn : Int32) (sl : Int32) (sfin : Int32) (swk : Int32) (scols : (Nat → Int32)) (snear : (Nat → Int32)) (slds : (Nat → Int32)) (qc : Int32) (qf : (Nat → Int32)) (rg : (Nat → zSV)) : va_W := [(xo, .inr (8, [.ref so, .ref ho, .ref ko, .ref ia, .ref fo, .ref wo, .ref zo, .ref dr])), (ho, .inr (2, [.ref rr, .int hnx, .int hct])), (rr, .inl (cS, 16, .inr (.inr (.inr (.inr (fun i => some (ra i).1)))))), (so, .inr (6, [.int sn, .int sl, .int sfin, .int swk, .ref sca, .ref sna, .ref sla, .ref sra])), (sca, .inl (cI, 12, .inl scols)), (sna, .inl (cI, 12, .inl snear)), (sla, .inl (cI, 36, .inl slds)), (sra, .inr (5, [.ref qs, .int qc])), (qs, .inl (cI, 12, .inl qf))] ++ (zRing cI ra rg)
set_option maxHeartbeats 4000000 in
set_option maxRecDepth 100000 in
theorem tX8_join (l : Launch) (D : va_G) (cI cZ cM cS : ClassId) (xo so ho ko ia fo wo zo dr rr sca sna sla sra qs : Nat) (ra : Nat → zSA) (hnx : Int32) (hct : Int32) (sn : Int32) (sl : Int32) (sfin : Int32) (swk : Int32) (scols : (Nat → Int32)) (snear : (Nat → Int32)) (slds : (Nat → Int32)) (qc : Int32) (qf : (Nat → Int32)) (rg : (Nat → zSV)) (p1 : Int32) {r : Int32} {hnx' : Int32} {hct' : Int32} {qc' : Int32} {qf' : (Nat → Int32)} {rg' : (Nat → zSV)} (hF : fX8_join p1 hnx hct sn sl sfin swk scols snear slds qc qf rg = some (r, hnx', hct', qc', qf', rg')) : zCW l yX8_join wsX8_join (zRm 4 111) D (zTy cI cZ cM cS) [.ref xo, .int p1] (wX8_join cI cZ cM cS xo so ho ko ia fo wo zo dr rr sca sna sla sra qs ra hnx hct sn sl sfin swk scols snear slds qc qf rg) (wX8_join cI cZ cM cS xo so ho ko ia fo wo zo dr rr sca sna sla sra qs ra hnx' hct' sn sl sfin swk scols snear slds qc' qf' rg') (some (.int r)) := by
  unfold fX8_join at hF
  refine zCW_ofi (cc := cX8_join) (maxL := 2) (own := RX8) (by decide) rfl rfl (Nat.le_of_ble_eq_true rfl) (fun p e s m args below meth c Q ls A E hA hK hP hD hRet hS hl => ?_)
  refine zgen (fun H locs hP hS => ?_) hP hS
  have hl : lv_has ls 2 [(0, .ref xo), (1, .int p1)] := hl
  obtain ⟨hx, hb, hml, hown, hts⟩ := id E
  have inX5 : ∀ w ∈ u_ws RX5 TX5 2, w ∈ wsX8_join := by decide +kernel
  have inX6 : ∀ w ∈ u_ws RX6 TX6 8, w ∈ wsX8_join := by decide +kernel
  have inX8 : ∀ w ∈ u_ws RX8 TX8 8, w ∈ wsX8_join := by decide +kernel
  have fl10 := hts (.fieldLink RX8 10 "SplitClasses" "now" "LSplitClasses$State;") (by decide +kernel)
  have fl19 := hts (.fieldLink RX8 19 "SplitClasses" "history" "LSplitClasses$History;") (by decide +kernel)
  have fl69 := hts (.fieldLink RX8 69 "SplitClasses$State" "row" "LSplitClasses$Row;") (by decide +kernel)
  have fl72 := hts (.fieldLink RX8 72 "SplitClasses$Row" "count" "I") (by decide +kernel)
  have cn118 := hts (.constant RX8 118 (-1000000001)) (by decide +kernel)
  refine lv_iload_n (pc := 0) hx hb dX8_join_0 rfl (lv_at hl 1 rfl) ?_
  refine lv_if_lt (pc := 1) (tgt := 20) hx hb dX8_join_1 (by decide) (fun hc => ?_) (fun hc => ?_)
  · have hF := oif_t hF hc
    refine lv_ldc (v := (-1000000001 : Int32)) (pc := 20) hx hb hown cn118 dX8_join_20 ?_
    cases hF
    exact hRet _ _ _ _ rfl dX8_join_22 hP hD hS
  · have hF := oif_f hF hc
    refine lv_iload_n (pc := 4) hx hb dX8_join_4 rfl (lv_at hl 1 rfl) ?_
    refine lv_aload_n (pc := 5) hx hb dX8_join_5 rfl (lv_at hl 0 rfl) ?_
    refine va_get (pc := 6) (ci := 8) (C := RX8) (T := TX8) (N := 8) hx hb hts inX8 hown hK hP 0 rfl rfl 0 (by decide) fl10 (fun _ h9 => h9) rfl dX8_join_6 ?_
    refine va_get (pc := 9) (ci := 6) (C := RX6) (T := TX6) (N := 8) hx hb hts inX6 hown hK hP 3 rfl rfl 7 (by decide) fl69 (fun _ h9 => h9) rfl dX8_join_9 ?_
    refine va_get (pc := 12) (ci := 5) (C := RX5) (T := TX5) (N := 2) hx hb hts inX5 hown hK hP 7 rfl rfl 1 (by decide) fl72 (fun _ h9 => h9) rfl dX8_join_12 ?_
    refine lv_iconst (v := (1 : Int32)) (pc := 15) hx hb dX8_join_15 (by decide) ?_
    refine lv_isub (pc := 16) hx hb dX8_join_16 ?_
    refine lv_icmp_lt (pc := 17) (tgt := 23) hx hb dX8_join_17 (by decide) (fun hc => ?_) (fun hc => ?_)
    · have hF := oif_t hF hc
      refine lv_aload_n (pc := 23) hx hb dX8_join_23 rfl (lv_at hl 0 rfl) ?_
      refine va_get (pc := 24) (ci := 8) (C := RX8) (T := TX8) (N := 8) hx hb hts inX8 hown hK hP 0 rfl rfl 1 (by decide) fl19 (fun _ h9 => h9) rfl dX8_join_24 ?_
      refine lv_aload_n (pc := 27) hx hb dX8_join_27 rfl (lv_at hl 0 rfl) ?_
      refine va_get (pc := 28) (ci := 8) (C := RX8) (T := TX8) (N := 8) hx hb hts inX8 hown hK hP 0 rfl rfl 0 (by decide) fl10 (fun _ h9 => h9) rfl dX8_join_28 ?_
      obtain ⟨hnx_1, hct_1, rg_1, hC1, hF⟩ := ob3_e hF
      refine zVTT (T := (zRing cI ra rg)) (T1 := (zRing cI ra rg_1)) (pc := 31) (As := [.ref so]) (rest := []) (ws := [(xo, .inr (8, [.ref so, .ref ho, .ref ko, .ref ia, .ref fo, .ref wo, .ref zo, .ref dr])), (ho, .inr (2, [.ref rr, .int hnx, .int hct])), (rr, .inl (cS, 16, .inr (.inr (.inr (.inr (fun i => some (ra i).1)))))), (so, .inr (6, [.int sn, .int sl, .int sfin, .int swk, .ref sca, .ref sna, .ref sla, .ref sra])), (sca, .inl (cI, 12, .inl scols)), (sna, .inl (cI, 12, .inl snear)), (sla, .inl (cI, 36, .inl slds)), (sra, .inr (5, [.ref qs, .int qc])), (qs, .inl (cI, 12, .inl qf))]) (wc := [(ho, .inr (2, [.ref rr, .int hnx, .int hct])), (rr, .inl (cS, 16, .inr (.inr (.inr (.inr (fun i => some (ra i).1)))))), (so, .inr (6, [.int sn, .int sl, .int sfin, .int swk, .ref sca, .ref sna, .ref sla, .ref sra])), (sca, .inl (cI, 12, .inl scols)), (sna, .inl (cI, 12, .inl snear)), (sla, .inl (cI, 36, .inl slds)), (sra, .inr (5, [.ref qs, .int qc])), (qs, .inl (cI, 12, .inl qf))]) (w1 := [(ho, .inr (2, [.ref rr, .int hnx_1, .int hct_1])), (rr, .inl (cS, 16, .inr (.inr (.inr (.inr (fun i => some (ra i).1)))))), (so, .inr (6, [.int sn, .int sl, .int sfin, .int swk, .ref sca, .ref sna, .ref sla, .ref sra])), (sca, .inl (cI, 12, .inl scols)), (sna, .inl (cI, 12, .inl snear)), (sla, .inl (cI, 36, .inl slds)), (sra, .inr (5, [.ref qs, .int qc])), (qs, .inl (cI, 12, .inl qf))]) (wr := [(xo, .inr (8, [.ref so, .ref ho, .ref ko, .ref ia, .ref fo, .ref wo, .ref zo, .ref dr]))]) (w2 := [(xo, .inr (8, [.ref so, .ref ho, .ref ko, .ref ia, .ref fo, .ref wo, .ref zo, .ref dr])), (ho, .inr (2, [.ref rr, .int hnx_1, .int hct_1])), (rr, .inl (cS, 16, .inr (.inr (.inr (.inr (fun i => some (ra i).1)))))), (so, .inr (6, [.int sn, .int sl, .int sfin, .int swk, .ref sca, .ref sna, .ref sla, .ref sra])), (sca, .inl (cI, 12, .inl scols)), (sna, .inl (cI, 12, .inl snear)), (sla, .inl (cI, 36, .inl slds)), (sra, .inr (5, [.ref qs, .int qc])), (qs, .inl (cI, 12, .inl qf))]) E (tX2_remember l D cI cZ cM cS ho rr so sca sna sla sra qs ra hnx hct sn sl sfin swk scols snear slds qc qf rg hC1) 1 gX8_join_X2_remember rfl rfl rfl (by decide +kernel) ⟨Nat.le_of_ble_eq_true rfl, Nat.le_of_ble_eq_true rfl⟩ hK hP hD hS hA 9 [1, 2, 3, 4, 5, 6, 7, 8, 0] rfl rfl (by decide) rfl rfl 0 2 rfl rfl rfl rfl hl.1 rfl (Nat.le_of_ble_eq_true rfl) dX8_join_31 ⟨Nat.zero_le _, Nat.zero_le _⟩ (fun H locs hP hD hS => ?_)
      have hP : va_P D vwCl (wX8_join cI cZ cM cS xo so ho ko ia fo wo zo dr rr sca sna sla sra qs ra hnx_1 hct_1 sn sl sfin swk scols snear slds qc qf rg_1) H := hP
      have hD : va_D A (wX8_join cI cZ cM cS xo so ho ko ia fo wo zo dr rr sca sna sla sra qs ra hnx_1 hct_1 sn sl sfin swk scols snear slds qc qf rg_1) := hD
      refine W.eq (g2 := F0 m 34 ls []) rfl ?_
      refine lv_aload_n (pc := 34) hx hb dX8_join_34 rfl (lv_at hl 0 rfl) ?_
      refine va_get (pc := 35) (ci := 8) (C := RX8) (T := TX8) (N := 8) hx hb hts inX8 hown hK hP 0 rfl rfl 0 (by decide) fl10 (fun _ h9 => h9) rfl dX8_join_35 ?_
      refine va_get (pc := 38) (ci := 6) (C := RX6) (T := TX6) (N := 8) hx hb hts inX6 hown hK hP 3 rfl rfl 7 (by decide) fl69 (fun _ h9 => h9) rfl dX8_join_38 ?_
      refine lv_iload_n (pc := 41) hx hb dX8_join_41 rfl (lv_at hl 1 rfl) ?_
      obtain ⟨qc_1, qf_1, hC2, hF⟩ := ob2_e hF
      refine zVT (T := (zRing cI ra rg_1)) (pc := 42) (As := [.int p1]) (rest := []) (ws := [(xo, .inr (8, [.ref so, .ref ho, .ref ko, .ref ia, .ref fo, .ref wo, .ref zo, .ref dr])), (ho, .inr (2, [.ref rr, .int hnx_1, .int hct_1])), (rr, .inl (cS, 16, .inr (.inr (.inr (.inr (fun i => some (ra i).1)))))), (so, .inr (6, [.int sn, .int sl, .int sfin, .int swk, .ref sca, .ref sna, .ref sla, .ref sra])), (sca, .inl (cI, 12, .inl scols)), (sna, .inl (cI, 12, .inl snear)), (sla, .inl (cI, 36, .inl slds)), (sra, .inr (5, [.ref qs, .int qc])), (qs, .inl (cI, 12, .inl qf))]) (wc := [(sra, .inr (5, [.ref qs, .int qc])), (qs, .inl (cI, 12, .inl qf))]) (w1 := [(sra, .inr (5, [.ref qs, .int qc_1])), (qs, .inl (cI, 12, .inl qf_1))]) (wr := [(xo, .inr (8, [.ref so, .ref ho, .ref ko, .ref ia, .ref fo, .ref wo, .ref zo, .ref dr])), (ho, .inr (2, [.ref rr, .int hnx_1, .int hct_1])), (rr, .inl (cS, 16, .inr (.inr (.inr (.inr (fun i => some (ra i).1)))))), (so, .inr (6, [.int sn, .int sl, .int sfin, .int swk, .ref sca, .ref sna, .ref sla, .ref sra])), (sca, .inl (cI, 12, .inl scols)), (sna, .inl (cI, 12, .inl snear)), (sla, .inl (cI, 36, .inl slds))]) (w2 := [(xo, .inr (8, [.ref so, .ref ho, .ref ko, .ref ia, .ref fo, .ref wo, .ref zo, .ref dr])), (ho, .inr (2, [.ref rr, .int hnx_1, .int hct_1])), (rr, .inl (cS, 16, .inr (.inr (.inr (.inr (fun i => some (ra i).1)))))), (so, .inr (6, [.int sn, .int sl, .int sfin, .int swk, .ref sca, .ref sna, .ref sla, .ref sra])), (sca, .inl (cI, 12, .inl scols)), (sna, .inl (cI, 12, .inl snear)), (sla, .inl (cI, 36, .inl slds)), (sra, .inr (5, [.ref qs, .int qc_1])), (qs, .inl (cI, 12, .inl qf_1))]) E (tX5_mergeWithNext l D cI cZ cM cS sra qs qc qf p1 hC2) 1 gX8_join_X5_mergeWithNext rfl rfl rfl (by decide +kernel) ⟨Nat.le_of_ble_eq_true rfl, Nat.le_of_ble_eq_true rfl⟩ hK hP hD hS hA 9 [7, 8, 0, 1, 2, 3, 4, 5, 6] rfl rfl (by decide) rfl rfl 0 5 rfl rfl rfl rfl hl.1 rfl (Nat.le_of_ble_eq_true rfl) dX8_join_42 ⟨Nat.zero_le _, Nat.zero_le _⟩ (fun H locs hP hD hS => ?_)
      have hP : va_P D vwCl (wX8_join cI cZ cM cS xo so ho ko ia fo wo zo dr rr sca sna sla sra qs ra hnx_1 hct_1 sn sl sfin swk scols snear slds qc_1 qf_1 rg_1) H := hP
      have hD : va_D A (wX8_join cI cZ cM cS xo so ho ko ia fo wo zo dr rr sca sna sla sra qs ra hnx_1 hct_1 sn sl sfin swk scols snear slds qc_1 qf_1 rg_1) := hD
      refine W.eq (g2 := F0 m 45 ls []) rfl ?_
      refine lv_aload_n (pc := 45) hx hb dX8_join_45 rfl (lv_at hl 0 rfl) ?_
      refine va_get (pc := 46) (ci := 8) (C := RX8) (T := TX8) (N := 8) hx hb hts inX8 hown hK hP 0 rfl rfl 0 (by decide) fl10 (fun _ h9 => h9) rfl dX8_join_46 ?_
      refine va_get (pc := 49) (ci := 6) (C := RX6) (T := TX6) (N := 8) hx hb hts inX6 hown hK hP 3 rfl rfl 7 (by decide) fl69 (fun _ h9 => h9) rfl dX8_join_49 ?_
      refine va_get (pc := 52) (ci := 5) (C := RX5) (T := TX5) (N := 2) hx hb hts inX5 hown hK hP 7 rfl rfl 1 (by decide) fl72 (fun _ h9 => h9) rfl dX8_join_52 ?_
      cases hF
      exact hRet _ _ _ _ rfl dX8_join_55 hP hD hS
    · have hF := oif_f hF hc
      refine lv_ldc (v := (-1000000001 : Int32)) (pc := 20) hx hb hown cn118 dX8_join_20 ?_
      cases hF
      exact hRet _ _ _ _ rfl dX8_join_22 hP hD hS
def fX8_arrange (hnx : Int32) (hct : Int32) (sn : Int32) (sl : Int32) (sfin : Int32) (swk : Int32) (scols : (Nat → Int32)) (snear : (Nat → Int32)) (slds : (Nat → Int32)) (qc : Int32) (qf : (Nat → Int32)) (zc : Int32) (zf : (Nat → Int32)) (rg : (Nat → zSV)) : Option (Int32 × Int32 × Int32 × (Nat → Int32) × Int32 × (Nat → Int32) × (Nat → zSV)) := (ob3 (fX2_remember hnx hct sn sl sfin swk scols snear slds qc qf rg) (fun hnx_1 hct_1 rg_1 => (ob2 (fX5_copyFrom zc zf qc qf) (fun zc_1 zf_1 => (ob1 (fX5_sortByLeast qc qf) (fun qf_1 => (ob1 (fX5_differingFrom qc qf_1 zc_1 zf_1) (fun r_1 => (some (r_1, hnx_1, hct_1, qf_1, zc_1, zf_1, rg_1))))))))))
abbrev wX8_arrange (cI cZ cM cS : ClassId) (xo so ho ko ia fo wo zo dr rr sca sna sla sra qs zs : Nat) (ra : Nat → zSA) (hnx : Int32) (hct : Int32) (sn : Int32) (sl : Int32) (sfin : Int32) (swk : Int32) (scols : (Nat → Int32)) (snear : (Nat → Int32)) (slds : (Nat → Int32)) (qc : Int32) (qf : (Nat → Int32)) (zc : Int32) (zf : (Nat → Int32)) (rg : (Nat → zSV)) : va_W := [(xo, .inr (8, [.ref so, .ref ho, .ref ko, .ref ia, .ref fo, .ref wo, .ref zo, .ref dr])), (ho, .inr (2, [.ref rr, .int hnx, .int hct])), (rr, .inl (cS, 16, .inr (.inr (.inr (.inr (fun i => some (ra i).1)))))), (so, .inr (6, [.int sn, .int sl, .int sfin, .int swk, .ref sca, .ref sna, .ref sla, .ref sra])), (sca, .inl (cI, 12, .inl scols)), (sna, .inl (cI, 12, .inl snear)), (sla, .inl (cI, 36, .inl slds)), (sra, .inr (5, [.ref qs, .int qc])), (qs, .inl (cI, 12, .inl qf)), (zo, .inr (5, [.ref zs, .int zc])), (zs, .inl (cI, 12, .inl zf))] ++ (zRing cI ra rg)
set_option maxHeartbeats 4000000 in
set_option maxRecDepth 100000 in
theorem tX8_arrange (l : Launch) (D : va_G) (cI cZ cM cS : ClassId) (xo so ho ko ia fo wo zo dr rr sca sna sla sra qs zs : Nat) (ra : Nat → zSA) (hnx : Int32) (hct : Int32) (sn : Int32) (sl : Int32) (sfin : Int32) (swk : Int32) (scols : (Nat → Int32)) (snear : (Nat → Int32)) (slds : (Nat → Int32)) (qc : Int32) (qf : (Nat → Int32)) (zc : Int32) (zf : (Nat → Int32)) (rg : (Nat → zSV)) {r : Int32} {hnx' : Int32} {hct' : Int32} {qf' : (Nat → Int32)} {zc' : Int32} {zf' : (Nat → Int32)} {rg' : (Nat → zSV)} (hF : fX8_arrange hnx hct sn sl sfin swk scols snear slds qc qf zc zf rg = some (r, hnx', hct', qf', zc', zf', rg')) : zCW l yX8_arrange wsX8_arrange (zRm 4 111) D (zTy cI cZ cM cS) [.ref xo] (wX8_arrange cI cZ cM cS xo so ho ko ia fo wo zo dr rr sca sna sla sra qs zs ra hnx hct sn sl sfin swk scols snear slds qc qf zc zf rg) (wX8_arrange cI cZ cM cS xo so ho ko ia fo wo zo dr rr sca sna sla sra qs zs ra hnx' hct' sn sl sfin swk scols snear slds qc qf' zc' zf' rg') (some (.int r)) := by
  unfold fX8_arrange at hF
  refine zCW_ofi (cc := cX8_arrange) (maxL := 1) (own := RX8) (by decide) rfl rfl (Nat.le_of_ble_eq_true rfl) (fun p e s m args below meth c Q ls A E hA hK hP hD hRet hS hl => ?_)
  refine zgen (fun H locs hP hS => ?_) hP hS
  have hl : lv_has ls 1 [(0, .ref xo)] := hl
  obtain ⟨hx, hb, hml, hown, hts⟩ := id E
  have inX6 : ∀ w ∈ u_ws RX6 TX6 8, w ∈ wsX8_arrange := by decide +kernel
  have inX8 : ∀ w ∈ u_ws RX8 TX8 8, w ∈ wsX8_arrange := by decide +kernel
  have fl10 := hts (.fieldLink RX8 10 "SplitClasses" "now" "LSplitClasses$State;") (by decide +kernel)
  have fl19 := hts (.fieldLink RX8 19 "SplitClasses" "history" "LSplitClasses$History;") (by decide +kernel)
  have fl54 := hts (.fieldLink RX8 54 "SplitClasses" "aside" "LSplitClasses$Row;") (by decide +kernel)
  have fl69 := hts (.fieldLink RX8 69 "SplitClasses$State" "row" "LSplitClasses$Row;") (by decide +kernel)
  refine lv_aload_n (pc := 0) hx hb dX8_arrange_0 rfl (lv_at hl 0 rfl) ?_
  refine va_get (pc := 1) (ci := 8) (C := RX8) (T := TX8) (N := 8) hx hb hts inX8 hown hK hP 0 rfl rfl 1 (by decide) fl19 (fun _ h9 => h9) rfl dX8_arrange_1 ?_
  refine lv_aload_n (pc := 4) hx hb dX8_arrange_4 rfl (lv_at hl 0 rfl) ?_
  refine va_get (pc := 5) (ci := 8) (C := RX8) (T := TX8) (N := 8) hx hb hts inX8 hown hK hP 0 rfl rfl 0 (by decide) fl10 (fun _ h9 => h9) rfl dX8_arrange_5 ?_
  obtain ⟨hnx_1, hct_1, rg_1, hC1, hF⟩ := ob3_e hF
  refine zVTT (T := (zRing cI ra rg)) (T1 := (zRing cI ra rg_1)) (pc := 8) (As := [.ref so]) (rest := []) (ws := [(xo, .inr (8, [.ref so, .ref ho, .ref ko, .ref ia, .ref fo, .ref wo, .ref zo, .ref dr])), (ho, .inr (2, [.ref rr, .int hnx, .int hct])), (rr, .inl (cS, 16, .inr (.inr (.inr (.inr (fun i => some (ra i).1)))))), (so, .inr (6, [.int sn, .int sl, .int sfin, .int swk, .ref sca, .ref sna, .ref sla, .ref sra])), (sca, .inl (cI, 12, .inl scols)), (sna, .inl (cI, 12, .inl snear)), (sla, .inl (cI, 36, .inl slds)), (sra, .inr (5, [.ref qs, .int qc])), (qs, .inl (cI, 12, .inl qf)), (zo, .inr (5, [.ref zs, .int zc])), (zs, .inl (cI, 12, .inl zf))]) (wc := [(ho, .inr (2, [.ref rr, .int hnx, .int hct])), (rr, .inl (cS, 16, .inr (.inr (.inr (.inr (fun i => some (ra i).1)))))), (so, .inr (6, [.int sn, .int sl, .int sfin, .int swk, .ref sca, .ref sna, .ref sla, .ref sra])), (sca, .inl (cI, 12, .inl scols)), (sna, .inl (cI, 12, .inl snear)), (sla, .inl (cI, 36, .inl slds)), (sra, .inr (5, [.ref qs, .int qc])), (qs, .inl (cI, 12, .inl qf))]) (w1 := [(ho, .inr (2, [.ref rr, .int hnx_1, .int hct_1])), (rr, .inl (cS, 16, .inr (.inr (.inr (.inr (fun i => some (ra i).1)))))), (so, .inr (6, [.int sn, .int sl, .int sfin, .int swk, .ref sca, .ref sna, .ref sla, .ref sra])), (sca, .inl (cI, 12, .inl scols)), (sna, .inl (cI, 12, .inl snear)), (sla, .inl (cI, 36, .inl slds)), (sra, .inr (5, [.ref qs, .int qc])), (qs, .inl (cI, 12, .inl qf))]) (wr := [(xo, .inr (8, [.ref so, .ref ho, .ref ko, .ref ia, .ref fo, .ref wo, .ref zo, .ref dr])), (zo, .inr (5, [.ref zs, .int zc])), (zs, .inl (cI, 12, .inl zf))]) (w2 := [(xo, .inr (8, [.ref so, .ref ho, .ref ko, .ref ia, .ref fo, .ref wo, .ref zo, .ref dr])), (ho, .inr (2, [.ref rr, .int hnx_1, .int hct_1])), (rr, .inl (cS, 16, .inr (.inr (.inr (.inr (fun i => some (ra i).1)))))), (so, .inr (6, [.int sn, .int sl, .int sfin, .int swk, .ref sca, .ref sna, .ref sla, .ref sra])), (sca, .inl (cI, 12, .inl scols)), (sna, .inl (cI, 12, .inl snear)), (sla, .inl (cI, 36, .inl slds)), (sra, .inr (5, [.ref qs, .int qc])), (qs, .inl (cI, 12, .inl qf)), (zo, .inr (5, [.ref zs, .int zc])), (zs, .inl (cI, 12, .inl zf))]) E (tX2_remember l D cI cZ cM cS ho rr so sca sna sla sra qs ra hnx hct sn sl sfin swk scols snear slds qc qf rg hC1) 1 gX8_arrange_X2_remember rfl rfl rfl (by decide +kernel) ⟨Nat.le_of_ble_eq_true rfl, Nat.le_of_ble_eq_true rfl⟩ hK hP hD hS hA 11 [1, 2, 3, 4, 5, 6, 7, 8, 0, 9, 10] rfl rfl (by decide) rfl rfl 0 2 rfl rfl rfl rfl hl.1 rfl (Nat.le_of_ble_eq_true rfl) dX8_arrange_8 ⟨Nat.zero_le _, Nat.zero_le _⟩ (fun H locs hP hD hS => ?_)
  have hP : va_P D vwCl (wX8_arrange cI cZ cM cS xo so ho ko ia fo wo zo dr rr sca sna sla sra qs zs ra hnx_1 hct_1 sn sl sfin swk scols snear slds qc qf zc zf rg_1) H := hP
  have hD : va_D A (wX8_arrange cI cZ cM cS xo so ho ko ia fo wo zo dr rr sca sna sla sra qs zs ra hnx_1 hct_1 sn sl sfin swk scols snear slds qc qf zc zf rg_1) := hD
  refine W.eq (g2 := F0 m 11 ls []) rfl ?_
  refine lv_aload_n (pc := 11) hx hb dX8_arrange_11 rfl (lv_at hl 0 rfl) ?_
  refine va_get (pc := 12) (ci := 8) (C := RX8) (T := TX8) (N := 8) hx hb hts inX8 hown hK hP 0 rfl rfl 6 (by decide) fl54 (fun _ h9 => h9) rfl dX8_arrange_12 ?_
  refine lv_aload_n (pc := 15) hx hb dX8_arrange_15 rfl (lv_at hl 0 rfl) ?_
  refine va_get (pc := 16) (ci := 8) (C := RX8) (T := TX8) (N := 8) hx hb hts inX8 hown hK hP 0 rfl rfl 0 (by decide) fl10 (fun _ h9 => h9) rfl dX8_arrange_16 ?_
  refine va_get (pc := 19) (ci := 6) (C := RX6) (T := TX6) (N := 8) hx hb hts inX6 hown hK hP 3 rfl rfl 7 (by decide) fl69 (fun _ h9 => h9) rfl dX8_arrange_19 ?_
  obtain ⟨zc_1, zf_1, hC2, hF⟩ := ob2_e hF
  refine zVT (T := (zRing cI ra rg_1)) (pc := 22) (As := [.ref sra]) (rest := []) (ws := [(xo, .inr (8, [.ref so, .ref ho, .ref ko, .ref ia, .ref fo, .ref wo, .ref zo, .ref dr])), (ho, .inr (2, [.ref rr, .int hnx_1, .int hct_1])), (rr, .inl (cS, 16, .inr (.inr (.inr (.inr (fun i => some (ra i).1)))))), (so, .inr (6, [.int sn, .int sl, .int sfin, .int swk, .ref sca, .ref sna, .ref sla, .ref sra])), (sca, .inl (cI, 12, .inl scols)), (sna, .inl (cI, 12, .inl snear)), (sla, .inl (cI, 36, .inl slds)), (sra, .inr (5, [.ref qs, .int qc])), (qs, .inl (cI, 12, .inl qf)), (zo, .inr (5, [.ref zs, .int zc])), (zs, .inl (cI, 12, .inl zf))]) (wc := [(zo, .inr (5, [.ref zs, .int zc])), (zs, .inl (cI, 12, .inl zf)), (sra, .inr (5, [.ref qs, .int qc])), (qs, .inl (cI, 12, .inl qf))]) (w1 := [(zo, .inr (5, [.ref zs, .int zc_1])), (zs, .inl (cI, 12, .inl zf_1)), (sra, .inr (5, [.ref qs, .int qc])), (qs, .inl (cI, 12, .inl qf))]) (wr := [(xo, .inr (8, [.ref so, .ref ho, .ref ko, .ref ia, .ref fo, .ref wo, .ref zo, .ref dr])), (ho, .inr (2, [.ref rr, .int hnx_1, .int hct_1])), (rr, .inl (cS, 16, .inr (.inr (.inr (.inr (fun i => some (ra i).1)))))), (so, .inr (6, [.int sn, .int sl, .int sfin, .int swk, .ref sca, .ref sna, .ref sla, .ref sra])), (sca, .inl (cI, 12, .inl scols)), (sna, .inl (cI, 12, .inl snear)), (sla, .inl (cI, 36, .inl slds))]) (w2 := [(xo, .inr (8, [.ref so, .ref ho, .ref ko, .ref ia, .ref fo, .ref wo, .ref zo, .ref dr])), (ho, .inr (2, [.ref rr, .int hnx_1, .int hct_1])), (rr, .inl (cS, 16, .inr (.inr (.inr (.inr (fun i => some (ra i).1)))))), (so, .inr (6, [.int sn, .int sl, .int sfin, .int swk, .ref sca, .ref sna, .ref sla, .ref sra])), (sca, .inl (cI, 12, .inl scols)), (sna, .inl (cI, 12, .inl snear)), (sla, .inl (cI, 36, .inl slds)), (sra, .inr (5, [.ref qs, .int qc])), (qs, .inl (cI, 12, .inl qf)), (zo, .inr (5, [.ref zs, .int zc_1])), (zs, .inl (cI, 12, .inl zf_1))]) E (tX5_copyFrom l D cI cZ cM cS zo zs sra qs zc zf qc qf hC2) 1 gX8_arrange_X5_copyFrom rfl rfl rfl (by decide +kernel) ⟨Nat.le_of_ble_eq_true rfl, Nat.le_of_ble_eq_true rfl⟩ hK hP hD hS hA 11 [9, 10, 7, 8, 0, 1, 2, 3, 4, 5, 6] rfl rfl (by decide) rfl rfl 0 5 rfl rfl rfl rfl hl.1 rfl (Nat.le_of_ble_eq_true rfl) dX8_arrange_22 ⟨Nat.zero_le _, Nat.zero_le _⟩ (fun H locs hP hD hS => ?_)
  have hP : va_P D vwCl (wX8_arrange cI cZ cM cS xo so ho ko ia fo wo zo dr rr sca sna sla sra qs zs ra hnx_1 hct_1 sn sl sfin swk scols snear slds qc qf zc_1 zf_1 rg_1) H := hP
  have hD : va_D A (wX8_arrange cI cZ cM cS xo so ho ko ia fo wo zo dr rr sca sna sla sra qs zs ra hnx_1 hct_1 sn sl sfin swk scols snear slds qc qf zc_1 zf_1 rg_1) := hD
  refine W.eq (g2 := F0 m 25 ls []) rfl ?_
  refine lv_aload_n (pc := 25) hx hb dX8_arrange_25 rfl (lv_at hl 0 rfl) ?_
  refine va_get (pc := 26) (ci := 8) (C := RX8) (T := TX8) (N := 8) hx hb hts inX8 hown hK hP 0 rfl rfl 0 (by decide) fl10 (fun _ h9 => h9) rfl dX8_arrange_26 ?_
  refine va_get (pc := 29) (ci := 6) (C := RX6) (T := TX6) (N := 8) hx hb hts inX6 hown hK hP 3 rfl rfl 7 (by decide) fl69 (fun _ h9 => h9) rfl dX8_arrange_29 ?_
  obtain ⟨qf_1, hC3, hF⟩ := ob1_e hF
  refine zVT (T := (zRing cI ra rg_1)) (pc := 32) (As := []) (rest := []) (ws := [(xo, .inr (8, [.ref so, .ref ho, .ref ko, .ref ia, .ref fo, .ref wo, .ref zo, .ref dr])), (ho, .inr (2, [.ref rr, .int hnx_1, .int hct_1])), (rr, .inl (cS, 16, .inr (.inr (.inr (.inr (fun i => some (ra i).1)))))), (so, .inr (6, [.int sn, .int sl, .int sfin, .int swk, .ref sca, .ref sna, .ref sla, .ref sra])), (sca, .inl (cI, 12, .inl scols)), (sna, .inl (cI, 12, .inl snear)), (sla, .inl (cI, 36, .inl slds)), (sra, .inr (5, [.ref qs, .int qc])), (qs, .inl (cI, 12, .inl qf)), (zo, .inr (5, [.ref zs, .int zc_1])), (zs, .inl (cI, 12, .inl zf_1))]) (wc := [(sra, .inr (5, [.ref qs, .int qc])), (qs, .inl (cI, 12, .inl qf))]) (w1 := [(sra, .inr (5, [.ref qs, .int qc])), (qs, .inl (cI, 12, .inl qf_1))]) (wr := [(xo, .inr (8, [.ref so, .ref ho, .ref ko, .ref ia, .ref fo, .ref wo, .ref zo, .ref dr])), (ho, .inr (2, [.ref rr, .int hnx_1, .int hct_1])), (rr, .inl (cS, 16, .inr (.inr (.inr (.inr (fun i => some (ra i).1)))))), (so, .inr (6, [.int sn, .int sl, .int sfin, .int swk, .ref sca, .ref sna, .ref sla, .ref sra])), (sca, .inl (cI, 12, .inl scols)), (sna, .inl (cI, 12, .inl snear)), (sla, .inl (cI, 36, .inl slds)), (zo, .inr (5, [.ref zs, .int zc_1])), (zs, .inl (cI, 12, .inl zf_1))]) (w2 := [(xo, .inr (8, [.ref so, .ref ho, .ref ko, .ref ia, .ref fo, .ref wo, .ref zo, .ref dr])), (ho, .inr (2, [.ref rr, .int hnx_1, .int hct_1])), (rr, .inl (cS, 16, .inr (.inr (.inr (.inr (fun i => some (ra i).1)))))), (so, .inr (6, [.int sn, .int sl, .int sfin, .int swk, .ref sca, .ref sna, .ref sla, .ref sra])), (sca, .inl (cI, 12, .inl scols)), (sna, .inl (cI, 12, .inl snear)), (sla, .inl (cI, 36, .inl slds)), (sra, .inr (5, [.ref qs, .int qc])), (qs, .inl (cI, 12, .inl qf_1)), (zo, .inr (5, [.ref zs, .int zc_1])), (zs, .inl (cI, 12, .inl zf_1))]) E (tX5_sortByLeast l D cI cZ cM cS sra qs qc qf hC3) 0 gX8_arrange_X5_sortByLeast rfl rfl rfl (by decide +kernel) ⟨Nat.le_of_ble_eq_true rfl, Nat.le_of_ble_eq_true rfl⟩ hK hP hD hS hA 11 [7, 8, 0, 1, 2, 3, 4, 5, 6, 9, 10] rfl rfl (by decide) rfl rfl 0 5 rfl rfl rfl rfl hl.1 rfl (Nat.le_of_ble_eq_true rfl) dX8_arrange_32 ⟨Nat.zero_le _, Nat.zero_le _⟩ (fun H locs hP hD hS => ?_)
  have hP : va_P D vwCl (wX8_arrange cI cZ cM cS xo so ho ko ia fo wo zo dr rr sca sna sla sra qs zs ra hnx_1 hct_1 sn sl sfin swk scols snear slds qc qf_1 zc_1 zf_1 rg_1) H := hP
  have hD : va_D A (wX8_arrange cI cZ cM cS xo so ho ko ia fo wo zo dr rr sca sna sla sra qs zs ra hnx_1 hct_1 sn sl sfin swk scols snear slds qc qf_1 zc_1 zf_1 rg_1) := hD
  refine W.eq (g2 := F0 m 35 ls []) rfl ?_
  refine lv_aload_n (pc := 35) hx hb dX8_arrange_35 rfl (lv_at hl 0 rfl) ?_
  refine va_get (pc := 36) (ci := 8) (C := RX8) (T := TX8) (N := 8) hx hb hts inX8 hown hK hP 0 rfl rfl 0 (by decide) fl10 (fun _ h9 => h9) rfl dX8_arrange_36 ?_
  refine va_get (pc := 39) (ci := 6) (C := RX6) (T := TX6) (N := 8) hx hb hts inX6 hown hK hP 3 rfl rfl 7 (by decide) fl69 (fun _ h9 => h9) rfl dX8_arrange_39 ?_
  refine lv_aload_n (pc := 42) hx hb dX8_arrange_42 rfl (lv_at hl 0 rfl) ?_
  refine va_get (pc := 43) (ci := 8) (C := RX8) (T := TX8) (N := 8) hx hb hts inX8 hown hK hP 0 rfl rfl 6 (by decide) fl54 (fun _ h9 => h9) rfl dX8_arrange_43 ?_
  obtain ⟨r_1, hC4, hF⟩ := ob1_e hF
  refine zVr (pc := 46) (As := [.ref zo]) (rest := []) E (tX5_differingFrom l D cI cZ cM cS sra qs zo zs qc qf_1 zc_1 zf_1 hC4) 1 gX8_arrange_X5_differingFrom rfl rfl rfl (by decide +kernel) ⟨Nat.le_of_ble_eq_true rfl, Nat.le_of_ble_eq_true rfl⟩ hK hP [7, 8, 9, 10] rfl 0 5 rfl rfl rfl rfl hl.1 rfl (Nat.le_of_ble_eq_true rfl) dX8_arrange_46 ⟨Nat.zero_le _, Nat.zero_le _⟩ ?_
  cases hF
  exact hRet _ _ _ _ rfl dX8_arrange_49 hP hD hS
def fX8_drift_b16 (p1 : Int32) (sn : Int32) (sl : Int32) (swk : Int32) (qc : Int32) (qf : (Nat → Int32)) (x2_2 : Int32) (hnx_3 : Int32) (hct_3 : Int32) (sfin_3 : Int32) (scols_3 : (Nat → Int32)) (snear_3 : (Nat → Int32)) (slds_3 : (Nat → Int32)) (dst_3 : Int32) (rg_3 : (Nat → zSV)) : Option ((Int32 × Int32 × Int32 × Int32 × (Nat → Int32) × (Nat → Int32) × (Nat → Int32) × Int32 × (Nat → zSV)) ⊕ (Int32 × Int32 × Int32 × (Nat → Int32) × (Nat → Int32) × (Nat → Int32) × Int32 × (Nat → zSV))) := (if p1 ≤ x2_2 then (some (.inr (hnx_3, hct_3, sfin_3, scols_3, snear_3, slds_3, dst_3, rg_3))) else (ob3 (fX2_remember hnx_3 hct_3 sn sl sfin_3 swk scols_3 snear_3 slds_3 qc qf rg_3) (fun hnx_5 hct_5 rg_5 => (ob5 (fX1_change dst_3 sn sl sfin_3 swk scols_3 snear_3 slds_3) (fun dst_5 sfin_5 scols_5 snear_5 slds_5 => (some (.inl ((x2_2 + (1 : Int32)), hnx_5, hct_5, sfin_5, scols_5, snear_5, slds_5, dst_5, rg_5))))))))
def fX8_drift_s16 (p1 : Int32) (sn : Int32) (sl : Int32) (swk : Int32) (qc : Int32) (qf : (Nat → Int32)) (sg_ : Int32 × Int32 × Int32 × Int32 × (Nat → Int32) × (Nat → Int32) × (Nat → Int32) × Int32 × (Nat → zSV)) : Option ((Int32 × Int32 × Int32 × Int32 × (Nat → Int32) × (Nat → Int32) × (Nat → Int32) × Int32 × (Nat → zSV)) ⊕ (Int32 × Int32 × Int32 × (Nat → Int32) × (Nat → Int32) × (Nat → Int32) × Int32 × (Nat → zSV))) := fX8_drift_b16 p1 sn sl swk qc qf sg_.1 sg_.2.1 sg_.2.2.1 sg_.2.2.2.1 sg_.2.2.2.2.1 sg_.2.2.2.2.2.1 sg_.2.2.2.2.2.2.1 sg_.2.2.2.2.2.2.2.1 sg_.2.2.2.2.2.2.2.2
def fX8_drift (p1 : Int32) (hnx : Int32) (hct : Int32) (sn : Int32) (sl : Int32) (sfin : Int32) (swk : Int32) (scols : (Nat → Int32)) (snear : (Nat → Int32)) (slds : (Nat → Int32)) (qc : Int32) (qf : (Nat → Int32)) (dst : Int32) (rg : (Nat → zSV)) : Option (Int32 × Int32 × Int32 × Int32 × (Nat → Int32) × (Nat → Int32) × (Nat → Int32) × Int32 × (Nat → zSV)) := (if p1 < (1 : Int32) then (some ((-1000000002 : Int32), hnx, hct, sfin, scols, snear, slds, dst, rg)) else (if p1 ≤ (12 : Int32) then (ob8 (olp (fX8_drift_s16 p1 sn sl swk qc qf) oFu ((0 : Int32), hnx, hct, sfin, scols, snear, slds, dst, rg)) (fun hnx_4 hct_4 sfin_4 scols_4 snear_4 slds_4 dst_4 rg_4 => (ob1 (fX6_edgeCount sn sl sfin_4 swk snear_4) (fun r_1 => (some (r_1, hnx_4, hct_4, sfin_4, scols_4, snear_4, slds_4, dst_4, rg_4)))))) else (some ((-1000000002 : Int32), hnx, hct, sfin, scols, snear, slds, dst, rg))))
abbrev wX8_drift (cI cZ cM cS : ClassId) (xo so ho ko ia fo wo zo dr rr sca sna sla sra qs : Nat) (ra : Nat → zSA) (hnx : Int32) (hct : Int32) (sn : Int32) (sl : Int32) (sfin : Int32) (swk : Int32) (scols : (Nat → Int32)) (snear : (Nat → Int32)) (slds : (Nat → Int32)) (qc : Int32) (qf : (Nat → Int32)) (dst : Int32) (rg : (Nat → zSV)) : va_W := [(xo, .inr (8, [.ref so, .ref ho, .ref ko, .ref ia, .ref fo, .ref wo, .ref zo, .ref dr])), (ho, .inr (2, [.ref rr, .int hnx, .int hct])), (rr, .inl (cS, 16, .inr (.inr (.inr (.inr (fun i => some (ra i).1)))))), (so, .inr (6, [.int sn, .int sl, .int sfin, .int swk, .ref sca, .ref sna, .ref sla, .ref sra])), (sca, .inl (cI, 12, .inl scols)), (sna, .inl (cI, 12, .inl snear)), (sla, .inl (cI, 36, .inl slds)), (sra, .inr (5, [.ref qs, .int qc])), (qs, .inl (cI, 12, .inl qf)), (dr, .inr (1, [.int dst]))] ++ (zRing cI ra rg)
set_option maxHeartbeats 4000000 in
set_option maxRecDepth 100000 in
theorem tX8_drift (l : Launch) (D : va_G) (cI cZ cM cS : ClassId) (xo so ho ko ia fo wo zo dr rr sca sna sla sra qs : Nat) (ra : Nat → zSA) (hnx : Int32) (hct : Int32) (sn : Int32) (sl : Int32) (sfin : Int32) (swk : Int32) (scols : (Nat → Int32)) (snear : (Nat → Int32)) (slds : (Nat → Int32)) (qc : Int32) (qf : (Nat → Int32)) (dst : Int32) (rg : (Nat → zSV)) (p1 : Int32) {r : Int32} {hnx' : Int32} {hct' : Int32} {sfin' : Int32} {scols' : (Nat → Int32)} {snear' : (Nat → Int32)} {slds' : (Nat → Int32)} {dst' : Int32} {rg' : (Nat → zSV)} (hF : fX8_drift p1 hnx hct sn sl sfin swk scols snear slds qc qf dst rg = some (r, hnx', hct', sfin', scols', snear', slds', dst', rg')) : zCW l yX8_drift wsX8_drift (zRm 4 111) D (zTy cI cZ cM cS) [.ref xo, .int p1] (wX8_drift cI cZ cM cS xo so ho ko ia fo wo zo dr rr sca sna sla sra qs ra hnx hct sn sl sfin swk scols snear slds qc qf dst rg) (wX8_drift cI cZ cM cS xo so ho ko ia fo wo zo dr rr sca sna sla sra qs ra hnx' hct' sn sl sfin' swk scols' snear' slds' qc qf dst' rg') (some (.int r)) := by
  unfold fX8_drift at hF
  refine zCW_ofi (cc := cX8_drift) (maxL := 3) (own := RX8) (by decide) rfl rfl (Nat.le_of_ble_eq_true rfl) (fun p e s m args below meth c Q ls A E hA hK hP hD hRet hS hl => ?_)
  refine zgen (fun H locs hP hS => ?_) hP hS
  have hl : lv_has ls 3 [(0, .ref xo), (1, .int p1)] := hl
  obtain ⟨hx, hb, hml, hown, hts⟩ := id E
  have inX8 : ∀ w ∈ u_ws RX8 TX8 8, w ∈ wsX8_drift := by decide +kernel
  have fl10 := hts (.fieldLink RX8 10 "SplitClasses" "now" "LSplitClasses$State;") (by decide +kernel)
  have fl19 := hts (.fieldLink RX8 19 "SplitClasses" "history" "LSplitClasses$History;") (by decide +kernel)
  have fl61 := hts (.fieldLink RX8 61 "SplitClasses" "draws" "LSplitClasses$Draws;") (by decide +kernel)
  have cn113 := hts (.constant RX8 113 (-1000000002)) (by decide +kernel)
  refine lv_iload_n (pc := 0) hx hb dX8_drift_0 rfl (lv_at hl 1 rfl) ?_
  refine lv_iconst (v := (1 : Int32)) (pc := 1) hx hb dX8_drift_1 (by decide) ?_
  refine lv_icmp_lt (pc := 2) (tgt := 11) hx hb dX8_drift_2 (by decide) (fun hc => ?_) (fun hc => ?_)
  · have hF := oif_t hF hc
    refine lv_ldc (v := (-1000000002 : Int32)) (pc := 11) hx hb hown cn113 dX8_drift_11 ?_
    cases hF
    exact hRet _ _ _ _ rfl dX8_drift_13 hP hD hS
  · have hF := oif_f hF hc
    refine lv_iload_n (pc := 5) hx hb dX8_drift_5 rfl (lv_at hl 1 rfl) ?_
    refine lv_bipush (v := (12 : Int32)) (pc := 6) hx hb dX8_drift_6 (by decide) ?_
    refine lv_icmp_le (pc := 8) (tgt := 14) hx hb dX8_drift_8 (by decide) (fun hc => ?_) (fun hc => ?_)
    · have hF := oif_t hF hc
      refine lv_iconst (v := (0 : Int32)) (pc := 14) hx hb dX8_drift_14 (by decide) ?_
      refine lv_istore_n (lv' := [(2, .int (0 : Int32)), (0, .ref xo), (1, .int p1)]) (pc := 15) hx hb dX8_drift_15 rfl hl (by decide) rfl (fun ls hl => ?_)
      obtain ⟨hnx_4, hct_4, sfin_4, scols_4, snear_4, slds_4, dst_4, rg_4, hL3, hF⟩ := ob8_e hF
      have ex3 : ∀ (H : Heap) (locs : List Loc) (ls : Array Slot), va_P D vwCl (wX8_drift cI cZ cM cS xo so ho ko ia fo wo zo dr rr sca sna sla sra qs ra hnx_4 hct_4 sn sl sfin_4 swk scols_4 snear_4 slds_4 qc qf dst_4 rg_4) H → va_D A (wX8_drift cI cZ cM cS xo so ho ko ia fo wo zo dr rr sca sna sla sra qs ra hnx_4 hct_4 sn sl sfin_4 swk scols_4 snear_4 slds_4 qc qf dst_4 rg_4) → va_S A s.heap H locs → lv_has ls 3 [(0, .ref xo)] → W p l e (zRm 4 111) s m args below meth c H locs 0 0 Q (F0 m 49 ls []) := by
        intro H locs ls hP hD hS hl
        refine lv_aload_n (pc := 49) hx hb dX8_drift_49 rfl (lv_at hl 0 rfl) ?_
        refine va_get (pc := 50) (ci := 8) (C := RX8) (T := TX8) (N := 8) hx hb hts inX8 hown hK hP 0 rfl rfl 0 (by decide) fl10 (fun _ h9 => h9) rfl dX8_drift_50 ?_
        obtain ⟨r_1, hC6, hF⟩ := ob1_e hF
        refine zVr (pc := 53) (As := []) (rest := []) E (tX6_edgeCount l D cI cZ cM cS so sca sna sla sra sn sl sfin_4 swk snear_4 hC6) 0 gX8_drift_X6_edgeCount rfl rfl rfl (by decide +kernel) ⟨Nat.le_of_ble_eq_true rfl, Nat.le_of_ble_eq_true rfl⟩ hK hP [3, 5] rfl 0 6 rfl rfl rfl rfl hl.1 rfl (Nat.le_of_ble_eq_true rfl) dX8_drift_53 ⟨Nat.zero_le _, Nat.zero_le _⟩ ?_
        cases hF
        exact hRet _ _ _ _ rfl dX8_drift_56 hP hD hS
      have lp3 : ∀ (n : Nat) (x2_2 : Int32) (hnx_3 : Int32) (hct_3 : Int32) (sfin_3 : Int32) (scols_3 : (Nat → Int32)) (snear_3 : (Nat → Int32)) (slds_3 : (Nat → Int32)) (dst_3 : Int32) (rg_3 : (Nat → zSV)) (H : Heap) (locs : List Loc) (ls : Array Slot), olp (fX8_drift_s16 p1 sn sl swk qc qf) n (x2_2, hnx_3, hct_3, sfin_3, scols_3, snear_3, slds_3, dst_3, rg_3) = some (hnx_4, hct_4, sfin_4, scols_4, snear_4, slds_4, dst_4, rg_4) → va_P D vwCl (wX8_drift cI cZ cM cS xo so ho ko ia fo wo zo dr rr sca sna sla sra qs ra hnx_3 hct_3 sn sl sfin_3 swk scols_3 snear_3 slds_3 qc qf dst_3 rg_3) H → va_D A (wX8_drift cI cZ cM cS xo so ho ko ia fo wo zo dr rr sca sna sla sra qs ra hnx_3 hct_3 sn sl sfin_3 swk scols_3 snear_3 slds_3 qc qf dst_3 rg_3) → va_S A s.heap H locs → lv_has ls 3 [(2, .int x2_2), (0, .ref xo), (1, .int p1)] → W p l e (zRm 4 111) s m args below meth c H locs 0 0 Q (F0 m 16 ls []) := by
        intro n
        induction n with
        | zero => intro x2_2 hnx_3 hct_3 sfin_3 scols_3 snear_3 slds_3 dst_3 rg_3 H locs ls hL; exact olp_0 hL
        | succ n ih =>
          intro x2_2 hnx_3 hct_3 sfin_3 scols_3 snear_3 slds_3 dst_3 rg_3 H locs ls hL3 hP hD hS hl
          obtain ⟨z, hz3, hL3⟩ := olp_e hL3
          have hz3 : fX8_drift_b16 p1 sn sl swk qc qf x2_2 hnx_3 hct_3 sfin_3 scols_3 snear_3 slds_3 dst_3 rg_3 = some z := hz3
          unfold fX8_drift_b16 at hz3
          refine lv_iload_n (pc := 16) hx hb dX8_drift_16 rfl (lv_at hl 0 rfl) ?_
          refine lv_iload_n (pc := 17) hx hb dX8_drift_17 rfl (lv_at hl 2 rfl) ?_
          refine lv_icmp_ge (pc := 18) (tgt := 49) hx hb dX8_drift_18 (by decide) (fun hc => ?_) (fun hc => ?_)
          · have hz3 := oif_t hz3 hc
            have hE := olp_r hz3 hL3
            cases hE
            exact ex3 _ _ _ hP hD hS (lv_sub hl [1] rfl)
          · have hz3 := oif_f hz3 hc
            refine lv_aload_n (pc := 21) hx hb dX8_drift_21 rfl (lv_at hl 1 rfl) ?_
            refine va_get (pc := 22) (ci := 8) (C := RX8) (T := TX8) (N := 8) hx hb hts inX8 hown hK hP 0 rfl rfl 1 (by decide) fl19 (fun _ h9 => h9) rfl dX8_drift_22 ?_
            refine lv_aload_n (pc := 25) hx hb dX8_drift_25 rfl (lv_at hl 1 rfl) ?_
            refine va_get (pc := 26) (ci := 8) (C := RX8) (T := TX8) (N := 8) hx hb hts inX8 hown hK hP 0 rfl rfl 0 (by decide) fl10 (fun _ h9 => h9) rfl dX8_drift_26 ?_
            obtain ⟨hnx_5, hct_5, rg_5, hC4, hz3⟩ := ob3_e hz3
            refine zVTT (T := (zRing cI ra rg_3)) (T1 := (zRing cI ra rg_5)) (pc := 29) (As := [.ref so]) (rest := []) (ws := [(xo, .inr (8, [.ref so, .ref ho, .ref ko, .ref ia, .ref fo, .ref wo, .ref zo, .ref dr])), (ho, .inr (2, [.ref rr, .int hnx_3, .int hct_3])), (rr, .inl (cS, 16, .inr (.inr (.inr (.inr (fun i => some (ra i).1)))))), (so, .inr (6, [.int sn, .int sl, .int sfin_3, .int swk, .ref sca, .ref sna, .ref sla, .ref sra])), (sca, .inl (cI, 12, .inl scols_3)), (sna, .inl (cI, 12, .inl snear_3)), (sla, .inl (cI, 36, .inl slds_3)), (sra, .inr (5, [.ref qs, .int qc])), (qs, .inl (cI, 12, .inl qf)), (dr, .inr (1, [.int dst_3]))]) (wc := [(ho, .inr (2, [.ref rr, .int hnx_3, .int hct_3])), (rr, .inl (cS, 16, .inr (.inr (.inr (.inr (fun i => some (ra i).1)))))), (so, .inr (6, [.int sn, .int sl, .int sfin_3, .int swk, .ref sca, .ref sna, .ref sla, .ref sra])), (sca, .inl (cI, 12, .inl scols_3)), (sna, .inl (cI, 12, .inl snear_3)), (sla, .inl (cI, 36, .inl slds_3)), (sra, .inr (5, [.ref qs, .int qc])), (qs, .inl (cI, 12, .inl qf))]) (w1 := [(ho, .inr (2, [.ref rr, .int hnx_5, .int hct_5])), (rr, .inl (cS, 16, .inr (.inr (.inr (.inr (fun i => some (ra i).1)))))), (so, .inr (6, [.int sn, .int sl, .int sfin_3, .int swk, .ref sca, .ref sna, .ref sla, .ref sra])), (sca, .inl (cI, 12, .inl scols_3)), (sna, .inl (cI, 12, .inl snear_3)), (sla, .inl (cI, 36, .inl slds_3)), (sra, .inr (5, [.ref qs, .int qc])), (qs, .inl (cI, 12, .inl qf))]) (wr := [(xo, .inr (8, [.ref so, .ref ho, .ref ko, .ref ia, .ref fo, .ref wo, .ref zo, .ref dr])), (dr, .inr (1, [.int dst_3]))]) (w2 := [(xo, .inr (8, [.ref so, .ref ho, .ref ko, .ref ia, .ref fo, .ref wo, .ref zo, .ref dr])), (ho, .inr (2, [.ref rr, .int hnx_5, .int hct_5])), (rr, .inl (cS, 16, .inr (.inr (.inr (.inr (fun i => some (ra i).1)))))), (so, .inr (6, [.int sn, .int sl, .int sfin_3, .int swk, .ref sca, .ref sna, .ref sla, .ref sra])), (sca, .inl (cI, 12, .inl scols_3)), (sna, .inl (cI, 12, .inl snear_3)), (sla, .inl (cI, 36, .inl slds_3)), (sra, .inr (5, [.ref qs, .int qc])), (qs, .inl (cI, 12, .inl qf)), (dr, .inr (1, [.int dst_3]))]) E (tX2_remember l D cI cZ cM cS ho rr so sca sna sla sra qs ra hnx_3 hct_3 sn sl sfin_3 swk scols_3 snear_3 slds_3 qc qf rg_3 hC4) 1 gX8_drift_X2_remember rfl rfl rfl (by decide +kernel) ⟨Nat.le_of_ble_eq_true rfl, Nat.le_of_ble_eq_true rfl⟩ hK hP hD hS hA 10 [1, 2, 3, 4, 5, 6, 7, 8, 0, 9] rfl rfl (by decide) rfl rfl 0 2 rfl rfl rfl rfl hl.1 rfl (Nat.le_of_ble_eq_true rfl) dX8_drift_29 ⟨Nat.zero_le _, Nat.zero_le _⟩ (fun H locs hP hD hS => ?_)
            have hP : va_P D vwCl (wX8_drift cI cZ cM cS xo so ho ko ia fo wo zo dr rr sca sna sla sra qs ra hnx_5 hct_5 sn sl sfin_3 swk scols_3 snear_3 slds_3 qc qf dst_3 rg_5) H := hP
            have hD : va_D A (wX8_drift cI cZ cM cS xo so ho ko ia fo wo zo dr rr sca sna sla sra qs ra hnx_5 hct_5 sn sl sfin_3 swk scols_3 snear_3 slds_3 qc qf dst_3 rg_5) := hD
            refine W.eq (g2 := F0 m 32 ls []) rfl ?_
            refine lv_aload_n (pc := 32) hx hb dX8_drift_32 rfl (lv_at hl 1 rfl) ?_
            refine va_get (pc := 33) (ci := 8) (C := RX8) (T := TX8) (N := 8) hx hb hts inX8 hown hK hP 0 rfl rfl 7 (by decide) fl61 (fun _ h9 => h9) rfl dX8_drift_33 ?_
            refine lv_aload_n (pc := 36) hx hb dX8_drift_36 rfl (lv_at hl 1 rfl) ?_
            refine va_get (pc := 37) (ci := 8) (C := RX8) (T := TX8) (N := 8) hx hb hts inX8 hown hK hP 0 rfl rfl 0 (by decide) fl10 (fun _ h9 => h9) rfl dX8_drift_37 ?_
            obtain ⟨dst_5, sfin_5, scols_5, snear_5, slds_5, hC5, hz3⟩ := ob5_e hz3
            refine zVT (T := (zRing cI ra rg_5)) (pc := 40) (As := [.ref so]) (rest := []) (ws := [(xo, .inr (8, [.ref so, .ref ho, .ref ko, .ref ia, .ref fo, .ref wo, .ref zo, .ref dr])), (ho, .inr (2, [.ref rr, .int hnx_5, .int hct_5])), (rr, .inl (cS, 16, .inr (.inr (.inr (.inr (fun i => some (ra i).1)))))), (so, .inr (6, [.int sn, .int sl, .int sfin_3, .int swk, .ref sca, .ref sna, .ref sla, .ref sra])), (sca, .inl (cI, 12, .inl scols_3)), (sna, .inl (cI, 12, .inl snear_3)), (sla, .inl (cI, 36, .inl slds_3)), (sra, .inr (5, [.ref qs, .int qc])), (qs, .inl (cI, 12, .inl qf)), (dr, .inr (1, [.int dst_3]))]) (wc := [(dr, .inr (1, [.int dst_3])), (so, .inr (6, [.int sn, .int sl, .int sfin_3, .int swk, .ref sca, .ref sna, .ref sla, .ref sra])), (sca, .inl (cI, 12, .inl scols_3)), (sna, .inl (cI, 12, .inl snear_3)), (sla, .inl (cI, 36, .inl slds_3))]) (w1 := [(dr, .inr (1, [.int dst_5])), (so, .inr (6, [.int sn, .int sl, .int sfin_5, .int swk, .ref sca, .ref sna, .ref sla, .ref sra])), (sca, .inl (cI, 12, .inl scols_5)), (sna, .inl (cI, 12, .inl snear_5)), (sla, .inl (cI, 36, .inl slds_5))]) (wr := [(xo, .inr (8, [.ref so, .ref ho, .ref ko, .ref ia, .ref fo, .ref wo, .ref zo, .ref dr])), (ho, .inr (2, [.ref rr, .int hnx_5, .int hct_5])), (rr, .inl (cS, 16, .inr (.inr (.inr (.inr (fun i => some (ra i).1)))))), (sra, .inr (5, [.ref qs, .int qc])), (qs, .inl (cI, 12, .inl qf))]) (w2 := [(xo, .inr (8, [.ref so, .ref ho, .ref ko, .ref ia, .ref fo, .ref wo, .ref zo, .ref dr])), (ho, .inr (2, [.ref rr, .int hnx_5, .int hct_5])), (rr, .inl (cS, 16, .inr (.inr (.inr (.inr (fun i => some (ra i).1)))))), (so, .inr (6, [.int sn, .int sl, .int sfin_5, .int swk, .ref sca, .ref sna, .ref sla, .ref sra])), (sca, .inl (cI, 12, .inl scols_5)), (sna, .inl (cI, 12, .inl snear_5)), (sla, .inl (cI, 36, .inl slds_5)), (sra, .inr (5, [.ref qs, .int qc])), (qs, .inl (cI, 12, .inl qf)), (dr, .inr (1, [.int dst_5]))]) E (tX1_change l D cI cZ cM cS dr so sca sna sla sra dst_3 sn sl sfin_3 swk scols_3 snear_3 slds_3 hC5) 1 gX8_drift_X1_change rfl rfl rfl (by decide +kernel) ⟨Nat.le_of_ble_eq_true rfl, Nat.le_of_ble_eq_true rfl⟩ hK hP hD hS hA 10 [9, 3, 4, 5, 6, 0, 1, 2, 7, 8] rfl rfl (by decide) rfl rfl 0 1 rfl rfl rfl rfl hl.1 rfl (Nat.le_of_ble_eq_true rfl) dX8_drift_40 ⟨Nat.zero_le _, Nat.zero_le _⟩ (fun H locs hP hD hS => ?_)
            have hP : va_P D vwCl (wX8_drift cI cZ cM cS xo so ho ko ia fo wo zo dr rr sca sna sla sra qs ra hnx_5 hct_5 sn sl sfin_5 swk scols_5 snear_5 slds_5 qc qf dst_5 rg_5) H := hP
            have hD : va_D A (wX8_drift cI cZ cM cS xo so ho ko ia fo wo zo dr rr sca sna sla sra qs ra hnx_5 hct_5 sn sl sfin_5 swk scols_5 snear_5 slds_5 qc qf dst_5 rg_5) := hD
            refine W.eq (g2 := F0 m 43 ls []) rfl ?_
            refine lv_iinc (v := (x2_2 + (1 : Int32))) (lv' := [(2, .int (x2_2 + (1 : Int32))), (0, .ref xo), (1, .int p1)]) (pc := 43) hx hb dX8_drift_43 hl (k := 0) rfl rfl (by decide) rfl (fun ls hl => ?_)
            refine lv_goto (pc := 46) (tgt := 16) hx hb dX8_drift_46 (by decide) ?_
            exact ih _ _ _ _ _ _ _ _ _ _ _ _ (olp_l hz3 hL3) hP hD hS (lv_sub hl [0, 1, 2] rfl)
      exact lp3 oFu _ _ _ _ _ _ _ _ _ _ _ _ hL3 hP hD hS (lv_sub hl [0, 1, 2] rfl)
    · have hF := oif_f hF hc
      refine lv_ldc (v := (-1000000002 : Int32)) (pc := 11) hx hb hown cn113 dX8_drift_11 ?_
      cases hF
      exact hRet _ _ _ _ rfl dX8_drift_13 hP hD hS
def fX8_undo (p1 : Int32) (hnx : Int32) (hct : Int32) (sn : Int32) (sl : Int32) (sfin : Int32) (swk : Int32) (scols : (Nat → Int32)) (snear : (Nat → Int32)) (slds : (Nat → Int32)) (qc : Int32) (qf : (Nat → Int32)) (rg : (Nat → zSV)) : Option (Int32 × Int32 × Int32 × Int32 × Int32 × Int32 × Int32 × (Nat → Int32) × (Nat → Int32) × (Nat → Int32) × Int32 × (Nat → Int32)) := (if p1 < (1 : Int32) then (some ((-1000000002 : Int32), hnx, hct, sn, sl, sfin, swk, scols, snear, slds, qc, qf)) else (if p1 ≤ (16 : Int32) then (if p1 ≤ hct then (ob11 (fX2_takeBack p1 hnx hct sn sl sfin swk scols snear slds qc qf rg) (fun hnx_1 hct_1 sn_1 sl_1 sfin_1 swk_1 scols_1 snear_1 slds_1 qc_1 qf_1 => (some (hct_1, hnx_1, hct_1, sn_1, sl_1, sfin_1, swk_1, scols_1, snear_1, slds_1, qc_1, qf_1)))) else (some ((-1000000003 : Int32), hnx, hct, sn, sl, sfin, swk, scols, snear, slds, qc, qf))) else (some ((-1000000002 : Int32), hnx, hct, sn, sl, sfin, swk, scols, snear, slds, qc, qf))))
abbrev wX8_undo (cI cZ cM cS : ClassId) (xo so ho ko ia fo wo zo dr rr sca sna sla sra qs : Nat) (ra : Nat → zSA) (hnx : Int32) (hct : Int32) (sn : Int32) (sl : Int32) (sfin : Int32) (swk : Int32) (scols : (Nat → Int32)) (snear : (Nat → Int32)) (slds : (Nat → Int32)) (qc : Int32) (qf : (Nat → Int32)) (rg : (Nat → zSV)) : va_W := [(xo, .inr (8, [.ref so, .ref ho, .ref ko, .ref ia, .ref fo, .ref wo, .ref zo, .ref dr])), (ho, .inr (2, [.ref rr, .int hnx, .int hct])), (rr, .inl (cS, 16, .inr (.inr (.inr (.inr (fun i => some (ra i).1)))))), (so, .inr (6, [.int sn, .int sl, .int sfin, .int swk, .ref sca, .ref sna, .ref sla, .ref sra])), (sca, .inl (cI, 12, .inl scols)), (sna, .inl (cI, 12, .inl snear)), (sla, .inl (cI, 36, .inl slds)), (sra, .inr (5, [.ref qs, .int qc])), (qs, .inl (cI, 12, .inl qf))] ++ (zRing cI ra rg)
set_option maxHeartbeats 4000000 in
set_option maxRecDepth 100000 in
theorem tX8_undo (l : Launch) (D : va_G) (cI cZ cM cS : ClassId) (xo so ho ko ia fo wo zo dr rr sca sna sla sra qs : Nat) (ra : Nat → zSA) (hnx : Int32) (hct : Int32) (sn : Int32) (sl : Int32) (sfin : Int32) (swk : Int32) (scols : (Nat → Int32)) (snear : (Nat → Int32)) (slds : (Nat → Int32)) (qc : Int32) (qf : (Nat → Int32)) (rg : (Nat → zSV)) (p1 : Int32) {r : Int32} {hnx' : Int32} {hct' : Int32} {sn' : Int32} {sl' : Int32} {sfin' : Int32} {swk' : Int32} {scols' : (Nat → Int32)} {snear' : (Nat → Int32)} {slds' : (Nat → Int32)} {qc' : Int32} {qf' : (Nat → Int32)} (hF : fX8_undo p1 hnx hct sn sl sfin swk scols snear slds qc qf rg = some (r, hnx', hct', sn', sl', sfin', swk', scols', snear', slds', qc', qf')) : zCW l yX8_undo wsX8_undo (zRm 4 112) D (zTy cI cZ cM cS) [.ref xo, .int p1] (wX8_undo cI cZ cM cS xo so ho ko ia fo wo zo dr rr sca sna sla sra qs ra hnx hct sn sl sfin swk scols snear slds qc qf rg) (wX8_undo cI cZ cM cS xo so ho ko ia fo wo zo dr rr sca sna sla sra qs ra hnx' hct' sn' sl' sfin' swk' scols' snear' slds' qc' qf' rg) (some (.int r)) := by
  unfold fX8_undo at hF
  refine zCW_ofi (cc := cX8_undo) (maxL := 2) (own := RX8) (by decide) rfl rfl (Nat.le_of_ble_eq_true rfl) (fun p e s m args below meth c Q ls A E hA hK hP hD hRet hS hl => ?_)
  refine zgen (fun H locs hP hS => ?_) hP hS
  have hl : lv_has ls 2 [(0, .ref xo), (1, .int p1)] := hl
  obtain ⟨hx, hb, hml, hown, hts⟩ := id E
  have inX2 : ∀ w ∈ u_ws RX2 TX2 3, w ∈ wsX8_undo := by decide +kernel
  have inX8 : ∀ w ∈ u_ws RX8 TX8 8, w ∈ wsX8_undo := by decide +kernel
  have fl10 := hts (.fieldLink RX8 10 "SplitClasses" "now" "LSplitClasses$State;") (by decide +kernel)
  have fl109 := hts (.fieldLink RX8 109 "SplitClasses$History" "count" "I") (by decide +kernel)
  have fl19 := hts (.fieldLink RX8 19 "SplitClasses" "history" "LSplitClasses$History;") (by decide +kernel)
  have cn113 := hts (.constant RX8 113 (-1000000002)) (by decide +kernel)
  have cn221 := hts (.constant RX8 221 (-1000000003)) (by decide +kernel)
  refine lv_iload_n (pc := 0) hx hb dX8_undo_0 rfl (lv_at hl 1 rfl) ?_
  refine lv_iconst (v := (1 : Int32)) (pc := 1) hx hb dX8_undo_1 (by decide) ?_
  refine lv_icmp_lt (pc := 2) (tgt := 11) hx hb dX8_undo_2 (by decide) (fun hc => ?_) (fun hc => ?_)
  · have hF := oif_t hF hc
    refine lv_ldc (v := (-1000000002 : Int32)) (pc := 11) hx hb hown cn113 dX8_undo_11 ?_
    cases hF
    exact hRet _ _ _ _ rfl dX8_undo_13 hP hD hS
  · have hF := oif_f hF hc
    refine lv_iload_n (pc := 5) hx hb dX8_undo_5 rfl (lv_at hl 1 rfl) ?_
    refine lv_bipush (v := (16 : Int32)) (pc := 6) hx hb dX8_undo_6 (by decide) ?_
    refine lv_icmp_le (pc := 8) (tgt := 14) hx hb dX8_undo_8 (by decide) (fun hc => ?_) (fun hc => ?_)
    · have hF := oif_t hF hc
      refine lv_iload_n (pc := 14) hx hb dX8_undo_14 rfl (lv_at hl 1 rfl) ?_
      refine lv_aload_n (pc := 15) hx hb dX8_undo_15 rfl (lv_at hl 0 rfl) ?_
      refine va_get (pc := 16) (ci := 8) (C := RX8) (T := TX8) (N := 8) hx hb hts inX8 hown hK hP 0 rfl rfl 1 (by decide) fl19 (fun _ h9 => h9) rfl dX8_undo_16 ?_
      refine va_get (pc := 19) (ci := 2) (C := RX2) (T := TX2) (N := 3) hx hb hts inX2 hown hK hP 1 rfl rfl 2 (by decide) fl109 (fun _ h9 => h9) rfl dX8_undo_19 ?_
      refine lv_icmp_le (pc := 22) (tgt := 28) hx hb dX8_undo_22 (by decide) (fun hc => ?_) (fun hc => ?_)
      · have hF := oif_t hF hc
        refine lv_aload_n (pc := 28) hx hb dX8_undo_28 rfl (lv_at hl 0 rfl) ?_
        refine va_get (pc := 29) (ci := 8) (C := RX8) (T := TX8) (N := 8) hx hb hts inX8 hown hK hP 0 rfl rfl 1 (by decide) fl19 (fun _ h9 => h9) rfl dX8_undo_29 ?_
        refine lv_iload_n (pc := 32) hx hb dX8_undo_32 rfl (lv_at hl 1 rfl) ?_
        refine lv_aload_n (pc := 33) hx hb dX8_undo_33 rfl (lv_at hl 0 rfl) ?_
        refine va_get (pc := 34) (ci := 8) (C := RX8) (T := TX8) (N := 8) hx hb hts inX8 hown hK hP 0 rfl rfl 0 (by decide) fl10 (fun _ h9 => h9) rfl dX8_undo_34 ?_
        obtain ⟨hnx_1, hct_1, sn_1, sl_1, sfin_1, swk_1, scols_1, snear_1, slds_1, qc_1, qf_1, hC1, hF⟩ := ob11_e hF
        refine zVTT (T := (zRing cI ra rg)) (T1 := (zRing cI ra rg)) (pc := 37) (As := [.int p1, .ref so]) (rest := []) (ws := [(xo, .inr (8, [.ref so, .ref ho, .ref ko, .ref ia, .ref fo, .ref wo, .ref zo, .ref dr])), (ho, .inr (2, [.ref rr, .int hnx, .int hct])), (rr, .inl (cS, 16, .inr (.inr (.inr (.inr (fun i => some (ra i).1)))))), (so, .inr (6, [.int sn, .int sl, .int sfin, .int swk, .ref sca, .ref sna, .ref sla, .ref sra])), (sca, .inl (cI, 12, .inl scols)), (sna, .inl (cI, 12, .inl snear)), (sla, .inl (cI, 36, .inl slds)), (sra, .inr (5, [.ref qs, .int qc])), (qs, .inl (cI, 12, .inl qf))]) (wc := [(ho, .inr (2, [.ref rr, .int hnx, .int hct])), (rr, .inl (cS, 16, .inr (.inr (.inr (.inr (fun i => some (ra i).1)))))), (so, .inr (6, [.int sn, .int sl, .int sfin, .int swk, .ref sca, .ref sna, .ref sla, .ref sra])), (sca, .inl (cI, 12, .inl scols)), (sna, .inl (cI, 12, .inl snear)), (sla, .inl (cI, 36, .inl slds)), (sra, .inr (5, [.ref qs, .int qc])), (qs, .inl (cI, 12, .inl qf))]) (w1 := [(ho, .inr (2, [.ref rr, .int hnx_1, .int hct_1])), (rr, .inl (cS, 16, .inr (.inr (.inr (.inr (fun i => some (ra i).1)))))), (so, .inr (6, [.int sn_1, .int sl_1, .int sfin_1, .int swk_1, .ref sca, .ref sna, .ref sla, .ref sra])), (sca, .inl (cI, 12, .inl scols_1)), (sna, .inl (cI, 12, .inl snear_1)), (sla, .inl (cI, 36, .inl slds_1)), (sra, .inr (5, [.ref qs, .int qc_1])), (qs, .inl (cI, 12, .inl qf_1))]) (wr := [(xo, .inr (8, [.ref so, .ref ho, .ref ko, .ref ia, .ref fo, .ref wo, .ref zo, .ref dr]))]) (w2 := [(xo, .inr (8, [.ref so, .ref ho, .ref ko, .ref ia, .ref fo, .ref wo, .ref zo, .ref dr])), (ho, .inr (2, [.ref rr, .int hnx_1, .int hct_1])), (rr, .inl (cS, 16, .inr (.inr (.inr (.inr (fun i => some (ra i).1)))))), (so, .inr (6, [.int sn_1, .int sl_1, .int sfin_1, .int swk_1, .ref sca, .ref sna, .ref sla, .ref sra])), (sca, .inl (cI, 12, .inl scols_1)), (sna, .inl (cI, 12, .inl snear_1)), (sla, .inl (cI, 36, .inl slds_1)), (sra, .inr (5, [.ref qs, .int qc_1])), (qs, .inl (cI, 12, .inl qf_1))]) E (tX2_takeBack l D cI cZ cM cS ho rr so sca sna sla sra qs ra hnx hct sn sl sfin swk scols snear slds qc qf rg p1 hC1) 2 gX8_undo_X2_takeBack rfl rfl rfl (by decide +kernel) ⟨Nat.le_of_ble_eq_true rfl, Nat.le_of_ble_eq_true rfl⟩ hK hP hD hS hA 9 [1, 2, 3, 4, 5, 6, 7, 8, 0] rfl rfl (by decide) rfl rfl 0 2 rfl rfl rfl rfl hl.1 rfl (Nat.le_of_ble_eq_true rfl) dX8_undo_37 ⟨Nat.zero_le _, Nat.zero_le _⟩ (fun H locs hP hD hS => ?_)
        have hP : va_P D vwCl (wX8_undo cI cZ cM cS xo so ho ko ia fo wo zo dr rr sca sna sla sra qs ra hnx_1 hct_1 sn_1 sl_1 sfin_1 swk_1 scols_1 snear_1 slds_1 qc_1 qf_1 rg) H := hP
        have hD : va_D A (wX8_undo cI cZ cM cS xo so ho ko ia fo wo zo dr rr sca sna sla sra qs ra hnx_1 hct_1 sn_1 sl_1 sfin_1 swk_1 scols_1 snear_1 slds_1 qc_1 qf_1 rg) := hD
        refine W.eq (g2 := F0 m 40 ls []) rfl ?_
        refine lv_aload_n (pc := 40) hx hb dX8_undo_40 rfl (lv_at hl 0 rfl) ?_
        refine va_get (pc := 41) (ci := 8) (C := RX8) (T := TX8) (N := 8) hx hb hts inX8 hown hK hP 0 rfl rfl 1 (by decide) fl19 (fun _ h9 => h9) rfl dX8_undo_41 ?_
        refine va_get (pc := 44) (ci := 2) (C := RX2) (T := TX2) (N := 3) hx hb hts inX2 hown hK hP 1 rfl rfl 2 (by decide) fl109 (fun _ h9 => h9) rfl dX8_undo_44 ?_
        cases hF
        exact hRet _ _ _ _ rfl dX8_undo_47 hP hD hS
      · have hF := oif_f hF hc
        refine lv_ldc (v := (-1000000003 : Int32)) (pc := 25) hx hb hown cn221 dX8_undo_25 ?_
        cases hF
        exact hRet _ _ _ _ rfl dX8_undo_27 hP hD hS
    · have hF := oif_f hF hc
      refine lv_ldc (v := (-1000000002 : Int32)) (pc := 11) hx hb hown cn113 dX8_undo_11 ?_
      cases hF
      exact hRet _ _ _ _ rfl dX8_undo_13 hP hD hS
