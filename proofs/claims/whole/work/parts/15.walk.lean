def fX7_walkFrom_b26 (sn : Int32) (sl : Int32) (sfin : Int32) (swk : Int32) (snear : (Nat → Int32)) (x4_2 : Int32) (x3_2 : Int32) (ord_2 : (Nat → Int32)) (earl_2 : (Nat → Int32)) (kc_6 : Int32) (kf_6 : (Nat → Int32)) : Option ((Int32 × Int32 × (Nat → Int32) × (Nat → Int32) × Int32 × (Nat → Int32)) ⊕ ((Nat → Int32) × (Nat → Int32) × Int32 × (Nat → Int32))) := (if sn ≤ x4_2 then (some (.inr (ord_2, earl_2, kc_6, kf_6))) else (ob3 (fX5_takeLeast kc_6 kf_6) (fun r_4 kc_7 kf_7 => (ob1 (fX6_hasItem r_4 sn sl sfin swk) (fun r_5 => (if r_5 = (0 : Int32) then (some (.inr (ord_2, earl_2, kc_7, kf_7))) else (ogd x4_2 12 (ogd x4_2 12 (ogd r_4 12 (ob2 (fX5_cutBy (snear (Int32.toNatClampNeg r_4)) kc_7 kf_7) (fun kc_8 kf_8 => (some (.inl ((x4_2 + (1 : Int32)), (x3_2 ||| ((1 : Int32) <<< (r_4 &&& 31))), (upd ord_2 (Int32.toNatClampNeg x4_2) r_4), (upd earl_2 (Int32.toNatClampNeg x4_2) x3_2), kc_8, kf_8))))))))))))))
def fX7_walkFrom_s26 (sn : Int32) (sl : Int32) (sfin : Int32) (swk : Int32) (snear : (Nat → Int32)) (sg_ : Int32 × Int32 × (Nat → Int32) × (Nat → Int32) × Int32 × (Nat → Int32)) : Option ((Int32 × Int32 × (Nat → Int32) × (Nat → Int32) × Int32 × (Nat → Int32)) ⊕ ((Nat → Int32) × (Nat → Int32) × Int32 × (Nat → Int32))) := fX7_walkFrom_b26 sn sl sfin swk snear sg_.1 sg_.2.1 sg_.2.2.1 sg_.2.2.2.1 sg_.2.2.2.2.1 sg_.2.2.2.2.2
def fX7_walkFrom (p2 : Int32) (ord : (Nat → Int32)) (earl : (Nat → Int32)) (kc : Int32) (kf : (Nat → Int32)) (sn : Int32) (sl : Int32) (sfin : Int32) (swk : Int32) (snear : (Nat → Int32)) : Option ((Nat → Int32) × (Nat → Int32) × Int32 × (Nat → Int32)) := (ob1 (fX6_all sn sl sfin swk) (fun r_1 => (ob2 (fX5_gather r_1 kc kf) (fun kc_1 kf_1 => (ob2 (fX5_cutBy ((1 : Int32) <<< (p2 &&& 31)) kc_1 kf_1) (fun kc_2 kf_2 => (olp (fX7_walkFrom_s26 sn sl sfin swk snear) oFu ((0 : Int32), (0 : Int32), ord, earl, kc_2, kf_2))))))))
abbrev wX7_walkFrom (cI cZ cM cS : ClassId) (wo wd wr we ks so sca sna sla sra : Nat) (ord : (Nat → Int32)) (earl : (Nat → Int32)) (kc : Int32) (kf : (Nat → Int32)) (sn : Int32) (sl : Int32) (sfin : Int32) (swk : Int32) (snear : (Nat → Int32)) : va_W := [(wo, .inr (7, [.ref wd, .ref wr, .ref we])), (wd, .inl (cI, 12, .inl ord)), (we, .inl (cI, 12, .inl earl)), (wr, .inr (5, [.ref ks, .int kc])), (ks, .inl (cI, 12, .inl kf)), (so, .inr (6, [.int sn, .int sl, .int sfin, .int swk, .ref sca, .ref sna, .ref sla, .ref sra])), (sna, .inl (cI, 12, .inl snear))]
set_option maxHeartbeats 4000000 in
set_option maxRecDepth 100000 in
theorem tX7_walkFrom (l : Launch) (D : va_G) (cI cZ cM cS : ClassId) (wo wd wr we ks so sca sna sla sra : Nat) (ord : (Nat → Int32)) (earl : (Nat → Int32)) (kc : Int32) (kf : (Nat → Int32)) (sn : Int32) (sl : Int32) (sfin : Int32) (swk : Int32) (snear : (Nat → Int32)) (p2 : Int32) {ord' : (Nat → Int32)} {earl' : (Nat → Int32)} {kc' : Int32} {kf' : (Nat → Int32)} (hF : fX7_walkFrom p2 ord earl kc kf sn sl sfin swk snear = some (ord', earl', kc', kf')) : zCW l yX7_walkFrom wsX7_walkFrom (zRm 3 62) D (zTy cI cZ cM cS) [.ref wo, .ref so, .int p2] (wX7_walkFrom cI cZ cM cS wo wd wr we ks so sca sna sla sra ord earl kc kf sn sl sfin swk snear) (wX7_walkFrom cI cZ cM cS wo wd wr we ks so sca sna sla sra ord' earl' kc' kf' sn sl sfin swk snear) none := by
  unfold fX7_walkFrom at hF
  refine zCW_ofv (cc := cX7_walkFrom) (maxL := 6) (own := RX7) (by decide) rfl rfl (Nat.le_of_ble_eq_true rfl) (fun p e s m args below meth c Q ls A E hA hK hP hD hRet hS hl => ?_)
  refine zgen (fun H locs hP hS => ?_) hP hS
  have hl : lv_has ls 6 [(0, .ref wo), (1, .ref so), (2, .int p2)] := hl
  obtain ⟨hx, hb, hml, hown, hts⟩ := id E
  have inX6 : ∀ w ∈ u_ws RX6 TX6 8, w ∈ wsX7_walkFrom := by decide +kernel
  have inX7 : ∀ w ∈ u_ws RX7 TX7 3, w ∈ wsX7_walkFrom := by decide +kernel
  have fl18 := hts (.fieldLink RX7 18 "SplitClasses$Walk" "row" "LSplitClasses$Row;") (by decide +kernel)
  have fl22 := hts (.fieldLink RX7 22 "SplitClasses$Walk" "earlier" "[I") (by decide +kernel)
  have fl38 := hts (.fieldLink RX7 38 "SplitClasses$State" "n" "I") (by decide +kernel)
  have fl49 := hts (.fieldLink RX7 49 "SplitClasses$State" "nearSets" "[I") (by decide +kernel)
  have fl9 := hts (.fieldLink RX7 9 "SplitClasses$Walk" "order" "[I") (by decide +kernel)
  refine lv_aload_n (pc := 0) hx hb dX7_walkFrom_0 rfl (lv_at hl 0 rfl) ?_
  refine va_get (pc := 1) (ci := 7) (C := RX7) (T := TX7) (N := 3) hx hb hts inX7 hown hK hP 0 rfl rfl 1 (by decide) fl18 (fun _ h9 => h9) rfl dX7_walkFrom_1 ?_
  refine lv_aload_n (pc := 4) hx hb dX7_walkFrom_4 rfl (lv_at hl 1 rfl) ?_
  obtain ⟨r_1, hC1, hF⟩ := ob1_e hF
  refine zVr (pc := 5) (As := []) (rest := [.ref wr]) E (tX6_all l D cI cZ cM cS so sca sna sla sra sn sl sfin swk hC1) 0 gX7_walkFrom_X6_all rfl rfl rfl (by decide +kernel) ⟨Nat.le_of_ble_eq_true rfl, Nat.le_of_ble_eq_true rfl⟩ hK hP [5] rfl 0 6 rfl rfl rfl rfl hl.1 rfl (Nat.le_of_ble_eq_true rfl) dX7_walkFrom_5 ⟨Nat.zero_le _, Nat.zero_le _⟩ ?_
  obtain ⟨kc_1, kf_1, hC2, hF⟩ := ob2_e hF
  refine zV (pc := 8) (As := [.int r_1]) (rest := []) (wr := [(wo, .inr (7, [.ref wd, .ref wr, .ref we])), (wd, .inl (cI, 12, .inl ord)), (we, .inl (cI, 12, .inl earl)), (so, .inr (6, [.int sn, .int sl, .int sfin, .int swk, .ref sca, .ref sna, .ref sla, .ref sra])), (sna, .inl (cI, 12, .inl snear))]) (w2 := (wX7_walkFrom cI cZ cM cS wo wd wr we ks so sca sna sla sra ord earl kc_1 kf_1 sn sl sfin swk snear)) E (tX5_gather l D cI cZ cM cS wr ks kc kf r_1 hC2) 1 gX7_walkFrom_X5_gather rfl rfl rfl (by decide +kernel) ⟨Nat.le_of_ble_eq_true rfl, Nat.le_of_ble_eq_true rfl⟩ hK hP hD hS hA [3, 4] [0, 1, 2, 5, 6] [0, 1, 2, 5, 6, 3, 4] (by decide) rfl rfl (by decide) (by decide) rfl (by decide) 0 5 rfl rfl rfl rfl hl.1 rfl (Nat.le_of_ble_eq_true rfl) dX7_walkFrom_8 ⟨Nat.zero_le _, Nat.zero_le _⟩ (fun H locs hP hD hS => ?_)
  refine W.eq (g2 := F0 m 11 ls []) rfl ?_
  refine lv_aload_n (pc := 11) hx hb dX7_walkFrom_11 rfl (lv_at hl 0 rfl) ?_
  refine va_get (pc := 12) (ci := 7) (C := RX7) (T := TX7) (N := 3) hx hb hts inX7 hown hK hP 0 rfl rfl 1 (by decide) fl18 (fun _ h9 => h9) rfl dX7_walkFrom_12 ?_
  refine lv_iconst (v := (1 : Int32)) (pc := 15) hx hb dX7_walkFrom_15 (by decide) ?_
  refine lv_iload_n (pc := 16) hx hb dX7_walkFrom_16 rfl (lv_at hl 2 rfl) ?_
  refine lv_ishl (pc := 17) hx hb dX7_walkFrom_17 ?_
  obtain ⟨kc_2, kf_2, hC3, hF⟩ := ob2_e hF
  refine zV (pc := 18) (As := [.int ((1 : Int32) <<< (p2 &&& 31))]) (rest := []) (wr := [(wo, .inr (7, [.ref wd, .ref wr, .ref we])), (wd, .inl (cI, 12, .inl ord)), (we, .inl (cI, 12, .inl earl)), (so, .inr (6, [.int sn, .int sl, .int sfin, .int swk, .ref sca, .ref sna, .ref sla, .ref sra])), (sna, .inl (cI, 12, .inl snear))]) (w2 := (wX7_walkFrom cI cZ cM cS wo wd wr we ks so sca sna sla sra ord earl kc_2 kf_2 sn sl sfin swk snear)) E (tX5_cutBy l D cI cZ cM cS wr ks kc_1 kf_1 ((1 : Int32) <<< (p2 &&& 31)) hC3) 1 gX7_walkFrom_X5_cutBy rfl rfl rfl (by decide +kernel) ⟨Nat.le_of_ble_eq_true rfl, Nat.le_of_ble_eq_true rfl⟩ hK hP hD hS hA [3, 4] [0, 1, 2, 5, 6] [0, 1, 2, 5, 6, 3, 4] (by decide) rfl rfl (by decide) (by decide) rfl (by decide) 0 5 rfl rfl rfl rfl hl.1 rfl (Nat.le_of_ble_eq_true rfl) dX7_walkFrom_18 ⟨Nat.zero_le _, Nat.zero_le _⟩ (fun H locs hP hD hS => ?_)
  refine W.eq (g2 := F0 m 21 ls []) rfl ?_
  refine lv_iconst (v := (0 : Int32)) (pc := 21) hx hb dX7_walkFrom_21 (by decide) ?_
  refine lv_istore_n (lv' := [(3, .int (0 : Int32)), (0, .ref wo), (1, .ref so), (2, .int p2)]) (pc := 22) hx hb dX7_walkFrom_22 rfl hl (by decide) rfl (fun ls hl => ?_)
  refine lv_iconst (v := (0 : Int32)) (pc := 23) hx hb dX7_walkFrom_23 (by decide) ?_
  refine lv_istore (lv' := [(4, .int (0 : Int32)), (3, .int (0 : Int32)), (0, .ref wo), (1, .ref so), (2, .int p2)]) (pc := 24) hx hb dX7_walkFrom_24 hl (by decide) rfl (fun ls hl => ?_)
  have hL10 := hF
  have lp10 : ∀ (n : Nat) (x4_2 : Int32) (x3_2 : Int32) (ord_2 : (Nat → Int32)) (earl_2 : (Nat → Int32)) (kc_6 : Int32) (kf_6 : (Nat → Int32)) (H : Heap) (locs : List Loc) (ls : Array Slot), olp (fX7_walkFrom_s26 sn sl sfin swk snear) n (x4_2, x3_2, ord_2, earl_2, kc_6, kf_6) = some (ord', earl', kc', kf') → va_P D vwCl (wX7_walkFrom cI cZ cM cS wo wd wr we ks so sca sna sla sra ord_2 earl_2 kc_6 kf_6 sn sl sfin swk snear) H → va_D A (wX7_walkFrom cI cZ cM cS wo wd wr we ks so sca sna sla sra ord_2 earl_2 kc_6 kf_6 sn sl sfin swk snear) → va_S A s.heap H locs → lv_has ls 6 [(4, .int x4_2), (3, .int x3_2), (0, .ref wo), (1, .ref so)] → W p l e (zRm 3 62) s m args below meth c H locs 0 0 Q (F0 m 26 ls []) := by
    intro n
    induction n with
    | zero => intro x4_2 x3_2 ord_2 earl_2 kc_6 kf_6 H locs ls hL; exact olp_0 hL
    | succ n ih =>
      intro x4_2 x3_2 ord_2 earl_2 kc_6 kf_6 H locs ls hL10 hP hD hS hl
      obtain ⟨z, hz10, hL10⟩ := olp_e hL10
      have hz10 : fX7_walkFrom_b26 sn sl sfin swk snear x4_2 x3_2 ord_2 earl_2 kc_6 kf_6 = some z := hz10
      unfold fX7_walkFrom_b26 at hz10
      refine lv_iload (pc := 26) hx hb dX7_walkFrom_26 (lv_at hl 0 rfl) ?_
      refine lv_aload_n (pc := 28) hx hb dX7_walkFrom_28 rfl (lv_at hl 3 rfl) ?_
      refine va_get (pc := 29) (ci := 6) (C := RX6) (T := TX6) (N := 8) hx hb hts inX6 hown hK hP 5 rfl rfl 0 (by decide) fl38 (fun _ h9 => h9) rfl dX7_walkFrom_29 ?_
      refine lv_icmp_ge (pc := 32) (tgt := 100) hx hb dX7_walkFrom_32 (by decide) (fun hc => ?_) (fun hc => ?_)
      · have hz10 := oif_t hz10 hc
        have hE := olp_r hz10 hL10
        cases hE
        exact hRet _ _ _ _ dX7_walkFrom_100 hP hD hS
      · have hz10 := oif_f hz10 hc
        refine lv_aload_n (pc := 35) hx hb dX7_walkFrom_35 rfl (lv_at hl 2 rfl) ?_
        refine va_get (pc := 36) (ci := 7) (C := RX7) (T := TX7) (N := 3) hx hb hts inX7 hown hK hP 0 rfl rfl 1 (by decide) fl18 (fun _ h9 => h9) rfl dX7_walkFrom_36 ?_
        obtain ⟨r_4, kc_7, kf_7, hC11, hz10⟩ := ob3_e hz10
        refine zV (pc := 39) (As := []) (rest := []) (wr := [(wo, .inr (7, [.ref wd, .ref wr, .ref we])), (wd, .inl (cI, 12, .inl ord_2)), (we, .inl (cI, 12, .inl earl_2)), (so, .inr (6, [.int sn, .int sl, .int sfin, .int swk, .ref sca, .ref sna, .ref sla, .ref sra])), (sna, .inl (cI, 12, .inl snear))]) (w2 := (wX7_walkFrom cI cZ cM cS wo wd wr we ks so sca sna sla sra ord_2 earl_2 kc_7 kf_7 sn sl sfin swk snear)) E (tX5_takeLeast l D cI cZ cM cS wr ks kc_6 kf_6 hC11) 0 gX7_walkFrom_X5_takeLeast rfl rfl rfl (by decide +kernel) ⟨Nat.le_of_ble_eq_true rfl, Nat.le_of_ble_eq_true rfl⟩ hK hP hD hS hA [3, 4] [0, 1, 2, 5, 6] [0, 1, 2, 5, 6, 3, 4] (by decide) rfl rfl (by decide) (by decide) rfl (by decide) 0 5 rfl rfl rfl rfl hl.1 rfl (Nat.le_of_ble_eq_true rfl) dX7_walkFrom_39 ⟨Nat.zero_le _, Nat.zero_le _⟩ (fun H locs hP hD hS => ?_)
        refine W.eq (g2 := F0 m 42 ls [.int r_4]) rfl ?_
        refine lv_istore (lv' := [(5, .int r_4), (4, .int x4_2), (3, .int x3_2), (0, .ref wo), (1, .ref so)]) (pc := 42) hx hb dX7_walkFrom_42 hl (by decide) rfl (fun ls hl => ?_)
        refine lv_aload_n (pc := 44) hx hb dX7_walkFrom_44 rfl (lv_at hl 4 rfl) ?_
        refine lv_iload (pc := 45) hx hb dX7_walkFrom_45 (lv_at hl 0 rfl) ?_
        obtain ⟨r_5, hC12, hz10⟩ := ob1_e hz10
        refine zVr (pc := 47) (As := [.int r_4]) (rest := []) E (tX6_hasItem l D cI cZ cM cS so sca sna sla sra sn sl sfin swk r_4 hC12) 1 gX7_walkFrom_X6_hasItem rfl rfl rfl (by decide +kernel) ⟨Nat.le_of_ble_eq_true rfl, Nat.le_of_ble_eq_true rfl⟩ hK hP [5] rfl 0 6 rfl rfl rfl rfl hl.1 rfl (Nat.le_of_ble_eq_true rfl) dX7_walkFrom_47 ⟨Nat.zero_le _, Nat.zero_le _⟩ ?_
        refine lv_if_ne (pc := 50) (tgt := 56) hx hb dX7_walkFrom_50 (by decide) (fun hc => ?_) (fun hc => ?_)
        · have hz10 := oif_f hz10 hc
          refine lv_aload_n (pc := 56) hx hb dX7_walkFrom_56 rfl (lv_at hl 3 rfl) ?_
          refine va_get (pc := 57) (ci := 7) (C := RX7) (T := TX7) (N := 3) hx hb hts inX7 hown hK hP 0 rfl rfl 0 (by decide) fl9 (fun _ h9 => h9) rfl dX7_walkFrom_57 ?_
          refine lv_iload (pc := 60) hx hb dX7_walkFrom_60 (lv_at hl 1 rfl) ?_
          refine lv_iload (pc := 62) hx hb dX7_walkFrom_62 (lv_at hl 0 rfl) ?_
          obtain ⟨hg13, hz10⟩ := ogd_e hz10
          refine va_iast (pc := 64) hx hb hK hP hD hS 1 0 rfl rfl hg13 dX7_walkFrom_64 (fun H locs hP hD hS => ?_)
          have hP : va_P D vwCl (wX7_walkFrom cI cZ cM cS wo wd wr we ks so sca sna sla sra (upd ord_2 (Int32.toNatClampNeg x4_2) r_4) earl_2 kc_7 kf_7 sn sl sfin swk snear) H := hP
          have hD : va_D A (wX7_walkFrom cI cZ cM cS wo wd wr we ks so sca sna sla sra (upd ord_2 (Int32.toNatClampNeg x4_2) r_4) earl_2 kc_7 kf_7 sn sl sfin swk snear) := hD
          refine lv_aload_n (pc := 65) hx hb dX7_walkFrom_65 rfl (lv_at hl 3 rfl) ?_
          refine va_get (pc := 66) (ci := 7) (C := RX7) (T := TX7) (N := 3) hx hb hts inX7 hown hK hP 0 rfl rfl 2 (by decide) fl22 (fun _ h9 => h9) rfl dX7_walkFrom_66 ?_
          refine lv_iload (pc := 69) hx hb dX7_walkFrom_69 (lv_at hl 1 rfl) ?_
          refine lv_iload_n (pc := 71) hx hb dX7_walkFrom_71 rfl (lv_at hl 2 rfl) ?_
          obtain ⟨hg14, hz10⟩ := ogd_e hz10
          refine va_iast (pc := 72) hx hb hK hP hD hS 2 0 rfl rfl hg14 dX7_walkFrom_72 (fun H locs hP hD hS => ?_)
          have hP : va_P D vwCl (wX7_walkFrom cI cZ cM cS wo wd wr we ks so sca sna sla sra (upd ord_2 (Int32.toNatClampNeg x4_2) r_4) (upd earl_2 (Int32.toNatClampNeg x4_2) x3_2) kc_7 kf_7 sn sl sfin swk snear) H := hP
          have hD : va_D A (wX7_walkFrom cI cZ cM cS wo wd wr we ks so sca sna sla sra (upd ord_2 (Int32.toNatClampNeg x4_2) r_4) (upd earl_2 (Int32.toNatClampNeg x4_2) x3_2) kc_7 kf_7 sn sl sfin swk snear) := hD
          refine lv_iload_n (pc := 73) hx hb dX7_walkFrom_73 rfl (lv_at hl 2 rfl) ?_
          refine lv_iconst (v := (1 : Int32)) (pc := 74) hx hb dX7_walkFrom_74 (by decide) ?_
          refine lv_iload (pc := 75) hx hb dX7_walkFrom_75 (lv_at hl 0 rfl) ?_
          refine lv_ishl (pc := 77) hx hb dX7_walkFrom_77 ?_
          refine lv_ior (pc := 78) hx hb dX7_walkFrom_78 ?_
          refine lv_istore_n (lv' := [(3, .int (x3_2 ||| ((1 : Int32) <<< (r_4 &&& 31)))), (5, .int r_4), (4, .int x4_2), (0, .ref wo), (1, .ref so)]) (pc := 79) hx hb dX7_walkFrom_79 rfl hl (by decide) rfl (fun ls hl => ?_)
          refine lv_aload_n (pc := 80) hx hb dX7_walkFrom_80 rfl (lv_at hl 3 rfl) ?_
          refine va_get (pc := 81) (ci := 7) (C := RX7) (T := TX7) (N := 3) hx hb hts inX7 hown hK hP 0 rfl rfl 1 (by decide) fl18 (fun _ h9 => h9) rfl dX7_walkFrom_81 ?_
          refine lv_aload_n (pc := 84) hx hb dX7_walkFrom_84 rfl (lv_at hl 4 rfl) ?_
          refine va_get (pc := 85) (ci := 6) (C := RX6) (T := TX6) (N := 8) hx hb hts inX6 hown hK hP 5 rfl rfl 5 (by decide) fl49 (fun _ h9 => h9) rfl dX7_walkFrom_85 ?_
          refine lv_iload (pc := 88) hx hb dX7_walkFrom_88 (lv_at hl 1 rfl) ?_
          obtain ⟨hg15, hz10⟩ := ogd_e hz10
          refine va_iald (pc := 90) hx hb hK hP 6 0 rfl rfl hg15 dX7_walkFrom_90 ?_
          obtain ⟨kc_8, kf_8, hC16, hz10⟩ := ob2_e hz10
          refine zV (pc := 91) (As := [.int (snear (Int32.toNatClampNeg r_4))]) (rest := []) (wr := [(wo, .inr (7, [.ref wd, .ref wr, .ref we])), (wd, .inl (cI, 12, .inl (upd ord_2 (Int32.toNatClampNeg x4_2) r_4))), (we, .inl (cI, 12, .inl (upd earl_2 (Int32.toNatClampNeg x4_2) x3_2))), (so, .inr (6, [.int sn, .int sl, .int sfin, .int swk, .ref sca, .ref sna, .ref sla, .ref sra])), (sna, .inl (cI, 12, .inl snear))]) (w2 := (wX7_walkFrom cI cZ cM cS wo wd wr we ks so sca sna sla sra (upd ord_2 (Int32.toNatClampNeg x4_2) r_4) (upd earl_2 (Int32.toNatClampNeg x4_2) x3_2) kc_8 kf_8 sn sl sfin swk snear)) E (tX5_cutBy l D cI cZ cM cS wr ks kc_7 kf_7 (snear (Int32.toNatClampNeg r_4)) hC16) 1 gX7_walkFrom_X5_cutBy rfl rfl rfl (by decide +kernel) ⟨Nat.le_of_ble_eq_true rfl, Nat.le_of_ble_eq_true rfl⟩ hK hP hD hS hA [3, 4] [0, 1, 2, 5, 6] [0, 1, 2, 5, 6, 3, 4] (by decide) rfl rfl (by decide) (by decide) rfl (by decide) 0 5 rfl rfl rfl rfl hl.1 rfl (Nat.le_of_ble_eq_true rfl) dX7_walkFrom_91 ⟨Nat.zero_le _, Nat.zero_le _⟩ (fun H locs hP hD hS => ?_)
          refine W.eq (g2 := F0 m 94 ls []) rfl ?_
          refine lv_iinc (v := (x4_2 + (1 : Int32))) (lv' := [(4, .int (x4_2 + (1 : Int32))), (3, .int (x3_2 ||| ((1 : Int32) <<< (r_4 &&& 31)))), (5, .int r_4), (0, .ref wo), (1, .ref so)]) (pc := 94) hx hb dX7_walkFrom_94 hl (k := 2) rfl rfl (by decide) rfl (fun ls hl => ?_)
          refine lv_goto (pc := 97) (tgt := 26) hx hb dX7_walkFrom_97 (by decide) ?_
          exact ih _ _ _ _ _ _ _ _ _ (olp_l hz10 hL10) hP hD hS (lv_sub hl [0, 1, 3, 4] rfl)
        · have hz10 := oif_t hz10 hc
          refine lv_goto (pc := 53) (tgt := 100) hx hb dX7_walkFrom_53 (by decide) ?_
          have hE := olp_r hz10 hL10
          cases hE
          exact hRet _ _ _ _ dX7_walkFrom_100 hP hD hS
  exact lp10 oFu _ _ _ _ _ _ _ _ _ hL10 hP hD hS (lv_sub hl [0, 1, 2, 3] rfl)
def fX7_nearAhead (p2 : Int32) (ord : (Nat → Int32)) (earl : (Nat → Int32)) (sn : Int32) (sl : Int32) (sfin : Int32) (swk : Int32) (snear : (Nat → Int32)) : Option (Int32) := (ogd p2 12 (ogd (ord (Int32.toNatClampNeg p2)) 12 (ogd p2 12 (some ((snear (Int32.toNatClampNeg (ord (Int32.toNatClampNeg p2)))) &&& (earl (Int32.toNatClampNeg p2)))))))
abbrev wX7_nearAhead (cI cZ cM cS : ClassId) (wo wd wr we so sca sna sla sra : Nat) (ord : (Nat → Int32)) (earl : (Nat → Int32)) (sn : Int32) (sl : Int32) (sfin : Int32) (swk : Int32) (snear : (Nat → Int32)) : va_W := [(wo, .inr (7, [.ref wd, .ref wr, .ref we])), (wd, .inl (cI, 12, .inl ord)), (we, .inl (cI, 12, .inl earl)), (so, .inr (6, [.int sn, .int sl, .int sfin, .int swk, .ref sca, .ref sna, .ref sla, .ref sra])), (sna, .inl (cI, 12, .inl snear))]
set_option maxHeartbeats 4000000 in
set_option maxRecDepth 100000 in
theorem tX7_nearAhead (l : Launch) (D : va_G) (cI cZ cM cS : ClassId) (wo wd wr we so sca sna sla sra : Nat) (ord : (Nat → Int32)) (earl : (Nat → Int32)) (sn : Int32) (sl : Int32) (sfin : Int32) (swk : Int32) (snear : (Nat → Int32)) (p2 : Int32) {r : Int32} (hF : fX7_nearAhead p2 ord earl sn sl sfin swk snear = some r) : zCR l yX7_nearAhead wsX7_nearAhead (zRm 0 0) D (zTy cI cZ cM cS) [.ref wo, .ref so, .int p2] (wX7_nearAhead cI cZ cM cS wo wd wr we so sca sna sla sra ord earl sn sl sfin swk snear) r := by
  unfold fX7_nearAhead at hF
  refine zCR_of (cc := cX7_nearAhead) (maxL := 3) (own := RX7) (by decide +kernel) rfl rfl (Nat.le_of_ble_eq_true rfl) (fun p e s m args below meth c Q ls E hK hP hRet hl => ?_)
  have hl : lv_has ls 3 [(0, .ref wo), (1, .ref so), (2, .int p2)] := hl
  obtain ⟨hx, hb, hml, hown, hts⟩ := id E
  have inX6 : ∀ w ∈ u_ws RX6 TX6 8, w ∈ wsX7_nearAhead := by decide +kernel
  have inX7 : ∀ w ∈ u_ws RX7 TX7 3, w ∈ wsX7_nearAhead := by decide +kernel
  have fl22 := hts (.fieldLink RX7 22 "SplitClasses$Walk" "earlier" "[I") (by decide +kernel)
  have fl49 := hts (.fieldLink RX7 49 "SplitClasses$State" "nearSets" "[I") (by decide +kernel)
  have fl9 := hts (.fieldLink RX7 9 "SplitClasses$Walk" "order" "[I") (by decide +kernel)
  refine lv_aload_n (pc := 0) hx hb dX7_nearAhead_0 rfl (lv_at hl 1 rfl) ?_
  refine va_get (pc := 1) (ci := 6) (C := RX6) (T := TX6) (N := 8) hx hb hts inX6 hown hK hP 3 rfl rfl 5 (by decide) fl49 (fun _ h9 => h9) rfl dX7_nearAhead_1 ?_
  refine lv_aload_n (pc := 4) hx hb dX7_nearAhead_4 rfl (lv_at hl 0 rfl) ?_
  refine va_get (pc := 5) (ci := 7) (C := RX7) (T := TX7) (N := 3) hx hb hts inX7 hown hK hP 0 rfl rfl 0 (by decide) fl9 (fun _ h9 => h9) rfl dX7_nearAhead_5 ?_
  refine lv_iload_n (pc := 8) hx hb dX7_nearAhead_8 rfl (lv_at hl 2 rfl) ?_
  obtain ⟨hg1, hF⟩ := ogd_e hF
  refine va_iald (pc := 9) hx hb hK hP 1 0 rfl rfl hg1 dX7_nearAhead_9 ?_
  obtain ⟨hg2, hF⟩ := ogd_e hF
  refine va_iald (pc := 10) hx hb hK hP 4 0 rfl rfl hg2 dX7_nearAhead_10 ?_
  refine lv_aload_n (pc := 11) hx hb dX7_nearAhead_11 rfl (lv_at hl 0 rfl) ?_
  refine va_get (pc := 12) (ci := 7) (C := RX7) (T := TX7) (N := 3) hx hb hts inX7 hown hK hP 0 rfl rfl 2 (by decide) fl22 (fun _ h9 => h9) rfl dX7_nearAhead_12 ?_
  refine lv_iload_n (pc := 15) hx hb dX7_nearAhead_15 rfl (lv_at hl 2 rfl) ?_
  obtain ⟨hg3, hF⟩ := ogd_e hF
  refine va_iald (pc := 16) hx hb hK hP 2 0 rfl rfl hg3 dX7_nearAhead_16 ?_
  refine lv_iand (pc := 17) hx hb dX7_nearAhead_17 ?_
  cases hF
  exact hRet _ _ rfl dX7_nearAhead_18
def fX7_lastOf_b4 (p1 : Int32) (ord : (Nat → Int32)) (x3_2 : Int32) : Option ((Int32) ⊕ (Int32)) := (if x3_2 < (0 : Int32) then (some (.inr (-1 : Int32))) else (ogd x3_2 12 (if ((p1 >>> ((ord (Int32.toNatClampNeg x3_2)) &&& 31)) &&& (1 : Int32)) = (0 : Int32) then (some (.inl (x3_2 + (-1 : Int32)))) else (ogd x3_2 12 (some (.inr (ord (Int32.toNatClampNeg x3_2))))))))
def fX7_lastOf_s4 (p1 : Int32) (ord : (Nat → Int32)) (sg_ : Int32) : Option ((Int32) ⊕ (Int32)) := fX7_lastOf_b4 p1 ord sg_
def fX7_lastOf (p1 : Int32) (p2 : Int32) (ord : (Nat → Int32)) : Option (Int32) := (olp (fX7_lastOf_s4 p1 ord) oFu (p2 - (1 : Int32)))
abbrev wX7_lastOf (cI cZ cM cS : ClassId) (wo wd wr we : Nat) (ord : (Nat → Int32)) : va_W := [(wo, .inr (7, [.ref wd, .ref wr, .ref we])), (wd, .inl (cI, 12, .inl ord))]
set_option maxHeartbeats 4000000 in
set_option maxRecDepth 100000 in
theorem tX7_lastOf (l : Launch) (D : va_G) (cI cZ cM cS : ClassId) (wo wd wr we : Nat) (ord : (Nat → Int32)) (p1 : Int32) (p2 : Int32) {r : Int32} (hF : fX7_lastOf p1 p2 ord = some r) : zCR l yX7_lastOf wsX7_lastOf (zRm 0 0) D (zTy cI cZ cM cS) [.ref wo, .int p1, .int p2] (wX7_lastOf cI cZ cM cS wo wd wr we ord) r := by
  unfold fX7_lastOf at hF
  refine zCR_of (cc := cX7_lastOf) (maxL := 4) (own := RX7) (by decide +kernel) rfl rfl (Nat.le_of_ble_eq_true rfl) (fun p e s m args below meth c Q ls E hK hP hRet hl => ?_)
  have hl : lv_has ls 4 [(0, .ref wo), (1, .int p1), (2, .int p2)] := hl
  obtain ⟨hx, hb, hml, hown, hts⟩ := id E
  have inX7 : ∀ w ∈ u_ws RX7 TX7 3, w ∈ wsX7_lastOf := by decide +kernel
  have fl9 := hts (.fieldLink RX7 9 "SplitClasses$Walk" "order" "[I") (by decide +kernel)
  refine lv_iload_n (pc := 0) hx hb dX7_lastOf_0 rfl (lv_at hl 2 rfl) ?_
  refine lv_iconst (v := (1 : Int32)) (pc := 1) hx hb dX7_lastOf_1 (by decide) ?_
  refine lv_isub (pc := 2) hx hb dX7_lastOf_2 ?_
  refine lv_istore_n (lv' := [(3, .int (p2 - (1 : Int32))), (0, .ref wo), (1, .int p1), (2, .int p2)]) (pc := 3) hx hb dX7_lastOf_3 rfl hl (by decide) rfl (fun ls hl => ?_)
  have hL3 := hF
  have lp3 : ∀ (n : Nat) (x3_2 : Int32) (ls : Array Slot), olp (fX7_lastOf_s4 p1 ord) n x3_2 = some r → lv_has ls 4 [(3, .int x3_2), (0, .ref wo), (1, .int p1)] → W p l e (zRm 0 0) s m args below meth c s.heap [] 0 0 Q (F0 m 4 ls []) := by
    intro n
    induction n with
    | zero => intro x3_2 ls hL; exact olp_0 hL
    | succ n ih =>
      intro x3_2 ls hL3 hl
      obtain ⟨z, hz3, hL3⟩ := olp_e hL3
      have hz3 : fX7_lastOf_b4 p1 ord x3_2 = some z := hz3
      unfold fX7_lastOf_b4 at hz3
      refine lv_iload_n (pc := 4) hx hb dX7_lastOf_4 rfl (lv_at hl 0 rfl) ?_
      refine lv_if_lt (pc := 5) (tgt := 34) hx hb dX7_lastOf_5 (by decide) (fun hc => ?_) (fun hc => ?_)
      · have hz3 := oif_t hz3 hc
        refine lv_iconst (v := (-1 : Int32)) (pc := 34) hx hb dX7_lastOf_34 (by decide) ?_
        have hE := olp_r hz3 hL3
        cases hE
        exact hRet _ _ rfl dX7_lastOf_35
      · have hz3 := oif_f hz3 hc
        refine lv_iload_n (pc := 8) hx hb dX7_lastOf_8 rfl (lv_at hl 2 rfl) ?_
        refine lv_aload_n (pc := 9) hx hb dX7_lastOf_9 rfl (lv_at hl 1 rfl) ?_
        refine va_get (pc := 10) (ci := 7) (C := RX7) (T := TX7) (N := 3) hx hb hts inX7 hown hK hP 0 rfl rfl 0 (by decide) fl9 (fun _ h9 => h9) rfl dX7_lastOf_10 ?_
        refine lv_iload_n (pc := 13) hx hb dX7_lastOf_13 rfl (lv_at hl 0 rfl) ?_
        obtain ⟨hg4, hz3⟩ := ogd_e hz3
        refine va_iald (pc := 14) hx hb hK hP 1 0 rfl rfl hg4 dX7_lastOf_14 ?_
        refine lv_ishr (pc := 15) hx hb dX7_lastOf_15 ?_
        refine lv_iconst (v := (1 : Int32)) (pc := 16) hx hb dX7_lastOf_16 (by decide) ?_
        refine lv_iand (pc := 17) hx hb dX7_lastOf_17 ?_
        refine lv_if_eq (pc := 18) (tgt := 28) hx hb dX7_lastOf_18 (by decide) (fun hc => ?_) (fun hc => ?_)
        · have hz3 := oif_t hz3 hc
          refine lv_iinc (v := (x3_2 + (-1 : Int32))) (lv' := [(3, .int (x3_2 + (-1 : Int32))), (0, .ref wo), (1, .int p1)]) (pc := 28) hx hb dX7_lastOf_28 hl (k := 0) rfl rfl (by decide) rfl (fun ls hl => ?_)
          refine lv_goto (pc := 31) (tgt := 4) hx hb dX7_lastOf_31 (by decide) ?_
          exact ih _ _ (olp_l hz3 hL3) (lv_sub hl [0, 1, 2] rfl)
        · have hz3 := oif_f hz3 hc
          refine lv_aload_n (pc := 21) hx hb dX7_lastOf_21 rfl (lv_at hl 1 rfl) ?_
          refine va_get (pc := 22) (ci := 7) (C := RX7) (T := TX7) (N := 3) hx hb hts inX7 hown hK hP 0 rfl rfl 0 (by decide) fl9 (fun _ h9 => h9) rfl dX7_lastOf_22 ?_
          refine lv_iload_n (pc := 25) hx hb dX7_lastOf_25 rfl (lv_at hl 0 rfl) ?_
          obtain ⟨hg5, hz3⟩ := ogd_e hz3
          refine va_iald (pc := 26) hx hb hK hP 1 0 rfl rfl hg5 dX7_lastOf_26 ?_
          have hE := olp_r hz3 hL3
          cases hE
          exact hRet _ _ rfl dX7_lastOf_27
  exact lp3 oFu _ _ hL3 (lv_sub hl [0, 1, 2] rfl)
def fX7_fault_b2 (sn : Int32) (ord : (Nat → Int32)) (earl : (Nat → Int32)) (sl : Int32) (sfin : Int32) (swk : Int32) (snear : (Nat → Int32)) (x2_2 : Int32) : Option ((Int32) ⊕ (Int32)) := (if sn ≤ x2_2 then (some (.inr (-1 : Int32))) else (ob1 (fX7_nearAhead x2_2 ord earl sn sl sfin swk snear) (fun r_3 => (ob1 (fX7_lastOf r_3 x2_2 ord) (fun r_4 => (if r_4 = (-1 : Int32) then (some (.inl (x2_2 + (1 : Int32)))) else (ogd r_4 12 (if ((r_3 &&& (((1 : Int32) <<< (r_4 &&& 31)) ^^^ (-1 : Int32))) &&& ((snear (Int32.toNatClampNeg r_4)) ^^^ (-1 : Int32))) = (0 : Int32) then (some (.inl (x2_2 + (1 : Int32)))) else (ogd x2_2 12 (some (.inr (ord (Int32.toNatClampNeg x2_2)))))))))))))
def fX7_fault_s2 (sn : Int32) (ord : (Nat → Int32)) (earl : (Nat → Int32)) (sl : Int32) (sfin : Int32) (swk : Int32) (snear : (Nat → Int32)) (sg_ : Int32) : Option ((Int32) ⊕ (Int32)) := fX7_fault_b2 sn ord earl sl sfin swk snear sg_
def fX7_fault (ord : (Nat → Int32)) (earl : (Nat → Int32)) (sn : Int32) (sl : Int32) (sfin : Int32) (swk : Int32) (snear : (Nat → Int32)) : Option (Int32) := (olp (fX7_fault_s2 sn ord earl sl sfin swk snear) oFu (0 : Int32))
abbrev wX7_fault (cI cZ cM cS : ClassId) (wo wd wr we so sca sna sla sra : Nat) (ord : (Nat → Int32)) (earl : (Nat → Int32)) (sn : Int32) (sl : Int32) (sfin : Int32) (swk : Int32) (snear : (Nat → Int32)) : va_W := [(wo, .inr (7, [.ref wd, .ref wr, .ref we])), (wd, .inl (cI, 12, .inl ord)), (we, .inl (cI, 12, .inl earl)), (so, .inr (6, [.int sn, .int sl, .int sfin, .int swk, .ref sca, .ref sna, .ref sla, .ref sra])), (sna, .inl (cI, 12, .inl snear))]
set_option maxHeartbeats 4000000 in
set_option maxRecDepth 100000 in
theorem tX7_fault (l : Launch) (D : va_G) (cI cZ cM cS : ClassId) (wo wd wr we so sca sna sla sra : Nat) (ord : (Nat → Int32)) (earl : (Nat → Int32)) (sn : Int32) (sl : Int32) (sfin : Int32) (swk : Int32) (snear : (Nat → Int32)) {r : Int32} (hF : fX7_fault ord earl sn sl sfin swk snear = some r) : zCR l yX7_fault wsX7_fault (zRm 1 23) D (zTy cI cZ cM cS) [.ref wo, .ref so] (wX7_fault cI cZ cM cS wo wd wr we so sca sna sla sra ord earl sn sl sfin swk snear) r := by
  unfold fX7_fault at hF
  refine zCR_of (cc := cX7_fault) (maxL := 5) (own := RX7) (by decide +kernel) rfl rfl (Nat.le_of_ble_eq_true rfl) (fun p e s m args below meth c Q ls E hK hP hRet hl => ?_)
  have hl : lv_has ls 5 [(0, .ref wo), (1, .ref so)] := hl
  obtain ⟨hx, hb, hml, hown, hts⟩ := id E
  have inX6 : ∀ w ∈ u_ws RX6 TX6 8, w ∈ wsX7_fault := by decide +kernel
  have inX7 : ∀ w ∈ u_ws RX7 TX7 3, w ∈ wsX7_fault := by decide +kernel
  have fl38 := hts (.fieldLink RX7 38 "SplitClasses$State" "n" "I") (by decide +kernel)
  have fl49 := hts (.fieldLink RX7 49 "SplitClasses$State" "nearSets" "[I") (by decide +kernel)
  have fl9 := hts (.fieldLink RX7 9 "SplitClasses$Walk" "order" "[I") (by decide +kernel)
  refine lv_iconst (v := (0 : Int32)) (pc := 0) hx hb dX7_fault_0 (by decide) ?_
  refine lv_istore_n (lv' := [(2, .int (0 : Int32)), (0, .ref wo), (1, .ref so)]) (pc := 1) hx hb dX7_fault_1 rfl hl (by decide) rfl (fun ls hl => ?_)
  have hL5 := hF
  have lp5 : ∀ (n : Nat) (x2_2 : Int32) (ls : Array Slot), olp (fX7_fault_s2 sn ord earl sl sfin swk snear) n x2_2 = some r → lv_has ls 5 [(2, .int x2_2), (0, .ref wo), (1, .ref so)] → W p l e (zRm 1 23) s m args below meth c s.heap [] 0 0 Q (F0 m 2 ls []) := by
    intro n
    induction n with
    | zero => intro x2_2 ls hL; exact olp_0 hL
    | succ n ih =>
      intro x2_2 ls hL5 hl
      obtain ⟨z, hz5, hL5⟩ := olp_e hL5
      have hz5 : fX7_fault_b2 sn ord earl sl sfin swk snear x2_2 = some z := hz5
      unfold fX7_fault_b2 at hz5
      refine lv_iload_n (pc := 2) hx hb dX7_fault_2 rfl (lv_at hl 0 rfl) ?_
      refine lv_aload_n (pc := 3) hx hb dX7_fault_3 rfl (lv_at hl 2 rfl) ?_
      refine va_get (pc := 4) (ci := 6) (C := RX6) (T := TX6) (N := 8) hx hb hts inX6 hown hK hP 3 rfl rfl 0 (by decide) fl38 (fun _ h9 => h9) rfl dX7_fault_4 ?_
      refine lv_icmp_ge (pc := 7) (tgt := 65) hx hb dX7_fault_7 (by decide) (fun hc => ?_) (fun hc => ?_)
      · have hz5 := oif_t hz5 hc
        refine lv_iconst (v := (-1 : Int32)) (pc := 65) hx hb dX7_fault_65 (by decide) ?_
        have hE := olp_r hz5 hL5
        cases hE
        exact hRet _ _ rfl dX7_fault_66
      · have hz5 := oif_f hz5 hc
        refine lv_aload_n (pc := 10) hx hb dX7_fault_10 rfl (lv_at hl 1 rfl) ?_
        refine lv_aload_n (pc := 11) hx hb dX7_fault_11 rfl (lv_at hl 2 rfl) ?_
        refine lv_iload_n (pc := 12) hx hb dX7_fault_12 rfl (lv_at hl 0 rfl) ?_
        obtain ⟨r_3, hC6, hz5⟩ := ob1_e hz5
        refine zVr (pc := 13) (As := [.ref so, .int x2_2]) (rest := []) E (tX7_nearAhead l D cI cZ cM cS wo wd wr we so sca sna sla sra ord earl sn sl sfin swk snear x2_2 hC6) 2 gX7_fault_X7_nearAhead rfl rfl rfl (by decide +kernel) ⟨Nat.le_of_ble_eq_true rfl, Nat.le_of_ble_eq_true rfl⟩ hK hP [0, 1, 2, 3, 4] rfl 0 7 rfl rfl rfl rfl hl.1 rfl (Nat.le_of_ble_eq_true rfl) dX7_fault_13 ⟨Nat.zero_le _, Nat.zero_le _⟩ ?_
        refine lv_istore_n (lv' := [(3, .int r_3), (2, .int x2_2), (0, .ref wo), (1, .ref so)]) (pc := 16) hx hb dX7_fault_16 rfl hl (by decide) rfl (fun ls hl => ?_)
        refine lv_aload_n (pc := 17) hx hb dX7_fault_17 rfl (lv_at hl 2 rfl) ?_
        refine lv_iload_n (pc := 18) hx hb dX7_fault_18 rfl (lv_at hl 0 rfl) ?_
        refine lv_iload_n (pc := 19) hx hb dX7_fault_19 rfl (lv_at hl 1 rfl) ?_
        obtain ⟨r_4, hC7, hz5⟩ := ob1_e hz5
        refine zVr (pc := 20) (As := [.int r_3, .int x2_2]) (rest := []) E (tX7_lastOf l D cI cZ cM cS wo wd wr we ord r_3 x2_2 hC7) 2 gX7_fault_X7_lastOf rfl rfl rfl (by decide +kernel) ⟨Nat.le_of_ble_eq_true rfl, Nat.le_of_ble_eq_true rfl⟩ hK hP [0, 1] rfl 0 7 rfl rfl rfl rfl hl.1 rfl (Nat.le_of_ble_eq_true rfl) dX7_fault_20 ⟨Nat.zero_le _, Nat.zero_le _⟩ ?_
        refine lv_istore (lv' := [(4, .int r_4), (3, .int r_3), (2, .int x2_2), (0, .ref wo), (1, .ref so)]) (pc := 23) hx hb dX7_fault_23 hl (by decide) rfl (fun ls hl => ?_)
        refine lv_iload (pc := 25) hx hb dX7_fault_25 (lv_at hl 0 rfl) ?_
        refine lv_iconst (v := (-1 : Int32)) (pc := 27) hx hb dX7_fault_27 (by decide) ?_
        refine lv_icmp_eq (pc := 28) (tgt := 59) hx hb dX7_fault_28 (by decide) (fun hc => ?_) (fun hc => ?_)
        · have hz5 := oif_t hz5 hc
          refine lv_iinc (v := (x2_2 + (1 : Int32))) (lv' := [(2, .int (x2_2 + (1 : Int32))), (4, .int r_4), (3, .int r_3), (0, .ref wo), (1, .ref so)]) (pc := 59) hx hb dX7_fault_59 hl (k := 2) rfl rfl (by decide) rfl (fun ls hl => ?_)
          refine lv_goto (pc := 62) (tgt := 2) hx hb dX7_fault_62 (by decide) ?_
          exact ih _ _ (olp_l hz5 hL5) (lv_sub hl [0, 3, 4] rfl)
        · have hz5 := oif_f hz5 hc
          refine lv_iload_n (pc := 31) hx hb dX7_fault_31 rfl (lv_at hl 1 rfl) ?_
          refine lv_iconst (v := (1 : Int32)) (pc := 32) hx hb dX7_fault_32 (by decide) ?_
          refine lv_iload (pc := 33) hx hb dX7_fault_33 (lv_at hl 0 rfl) ?_
          refine lv_ishl (pc := 35) hx hb dX7_fault_35 ?_
          refine lv_iconst (v := (-1 : Int32)) (pc := 36) hx hb dX7_fault_36 (by decide) ?_
          refine lv_ixor (pc := 37) hx hb dX7_fault_37 ?_
          refine lv_iand (pc := 38) hx hb dX7_fault_38 ?_
          refine lv_aload_n (pc := 39) hx hb dX7_fault_39 rfl (lv_at hl 4 rfl) ?_
          refine va_get (pc := 40) (ci := 6) (C := RX6) (T := TX6) (N := 8) hx hb hts inX6 hown hK hP 3 rfl rfl 5 (by decide) fl49 (fun _ h9 => h9) rfl dX7_fault_40 ?_
          refine lv_iload (pc := 43) hx hb dX7_fault_43 (lv_at hl 0 rfl) ?_
          obtain ⟨hg8, hz5⟩ := ogd_e hz5
          refine va_iald (pc := 45) hx hb hK hP 4 0 rfl rfl hg8 dX7_fault_45 ?_
          refine lv_iconst (v := (-1 : Int32)) (pc := 46) hx hb dX7_fault_46 (by decide) ?_
          refine lv_ixor (pc := 47) hx hb dX7_fault_47 ?_
          refine lv_iand (pc := 48) hx hb dX7_fault_48 ?_
          refine lv_if_eq (pc := 49) (tgt := 59) hx hb dX7_fault_49 (by decide) (fun hc => ?_) (fun hc => ?_)
          · have hz5 := oif_t hz5 hc
            refine lv_iinc (v := (x2_2 + (1 : Int32))) (lv' := [(2, .int (x2_2 + (1 : Int32))), (4, .int r_4), (3, .int r_3), (0, .ref wo), (1, .ref so)]) (pc := 59) hx hb dX7_fault_59 hl (k := 2) rfl rfl (by decide) rfl (fun ls hl => ?_)
            refine lv_goto (pc := 62) (tgt := 2) hx hb dX7_fault_62 (by decide) ?_
            exact ih _ _ (olp_l hz5 hL5) (lv_sub hl [0, 3, 4] rfl)
          · have hz5 := oif_f hz5 hc
            refine lv_aload_n (pc := 52) hx hb dX7_fault_52 rfl (lv_at hl 3 rfl) ?_
            refine va_get (pc := 53) (ci := 7) (C := RX7) (T := TX7) (N := 3) hx hb hts inX7 hown hK hP 0 rfl rfl 0 (by decide) fl9 (fun _ h9 => h9) rfl dX7_fault_53 ?_
            refine lv_iload_n (pc := 56) hx hb dX7_fault_56 rfl (lv_at hl 2 rfl) ?_
            obtain ⟨hg9, hz5⟩ := ogd_e hz5
            refine va_iald (pc := 57) hx hb hK hP 1 0 rfl rfl hg9 dX7_fault_57 ?_
            have hE := olp_r hz5 hL5
            cases hE
            exact hRet _ _ rfl dX7_fault_58
  exact lp5 oFu _ _ hL5 (lv_sub hl [0, 1, 2] rfl)
def fX7_clique_b4 (sn : Int32) (ord : (Nat → Int32)) (earl : (Nat → Int32)) (sl : Int32) (sfin : Int32) (swk : Int32) (snear : (Nat → Int32)) (x3_2 : Int32) (x2_3 : Int32) : Option ((Int32 × Int32) ⊕ (Int32)) := (if sn ≤ x3_2 then (some (.inr x2_3)) else (ob1 (fX7_nearAhead x3_2 ord earl sn sl sfin swk snear) (fun r_3 => (ob1 (fJ6_bitCount_0f7a4 r_3) (fun r_4 => (onm (if x2_3 < ((1 : Int32) + r_4) then ((1 : Int32) + r_4) else x2_3) (fun x2_5 => (some (.inl ((x3_2 + (1 : Int32)), x2_5))))))))))
def fX7_clique_s4 (sn : Int32) (ord : (Nat → Int32)) (earl : (Nat → Int32)) (sl : Int32) (sfin : Int32) (swk : Int32) (snear : (Nat → Int32)) (sg_ : Int32 × Int32) : Option ((Int32 × Int32) ⊕ (Int32)) := fX7_clique_b4 sn ord earl sl sfin swk snear sg_.1 sg_.2
def fX7_clique (ord : (Nat → Int32)) (earl : (Nat → Int32)) (sn : Int32) (sl : Int32) (sfin : Int32) (swk : Int32) (snear : (Nat → Int32)) : Option (Int32) := (ob1 (olp (fX7_clique_s4 sn ord earl sl sfin swk snear) oFu ((0 : Int32), (0 : Int32))) (fun x2_4 => (some x2_4)))
abbrev wX7_clique (cI cZ cM cS : ClassId) (wo wd wr we so sca sna sla sra : Nat) (ord : (Nat → Int32)) (earl : (Nat → Int32)) (sn : Int32) (sl : Int32) (sfin : Int32) (swk : Int32) (snear : (Nat → Int32)) : va_W := [(wo, .inr (7, [.ref wd, .ref wr, .ref we])), (wd, .inl (cI, 12, .inl ord)), (we, .inl (cI, 12, .inl earl)), (so, .inr (6, [.int sn, .int sl, .int sfin, .int swk, .ref sca, .ref sna, .ref sla, .ref sra])), (sna, .inl (cI, 12, .inl snear))]
set_option maxHeartbeats 4000000 in
set_option maxRecDepth 100000 in
theorem tX7_clique (l : Launch) (D : va_G) (cI cZ cM cS : ClassId) (wo wd wr we so sca sna sla sra : Nat) (ord : (Nat → Int32)) (earl : (Nat → Int32)) (sn : Int32) (sl : Int32) (sfin : Int32) (swk : Int32) (snear : (Nat → Int32)) {r : Int32} (hF : fX7_clique ord earl sn sl sfin swk snear = some r) : zCR l yX7_clique wsX7_clique (zRm 1 22) D (zTy cI cZ cM cS) [.ref wo, .ref so] (wX7_clique cI cZ cM cS wo wd wr we so sca sna sla sra ord earl sn sl sfin swk snear) r := by
  unfold fX7_clique at hF
  refine zCR_of (cc := cX7_clique) (maxL := 4) (own := RX7) (by decide +kernel) rfl rfl (Nat.le_of_ble_eq_true rfl) (fun p e s m args below meth c Q ls E hK hP hRet hl => ?_)
  have hl : lv_has ls 4 [(0, .ref wo), (1, .ref so)] := hl
  obtain ⟨hx, hb, hml, hown, hts⟩ := id E
  have inX6 : ∀ w ∈ u_ws RX6 TX6 8, w ∈ wsX7_clique := by decide +kernel
  have fl38 := hts (.fieldLink RX7 38 "SplitClasses$State" "n" "I") (by decide +kernel)
  refine lv_iconst (v := (0 : Int32)) (pc := 0) hx hb dX7_clique_0 (by decide) ?_
  refine lv_istore_n (lv' := [(2, .int (0 : Int32)), (0, .ref wo), (1, .ref so)]) (pc := 1) hx hb dX7_clique_1 rfl hl (by decide) rfl (fun ls hl => ?_)
  refine lv_iconst (v := (0 : Int32)) (pc := 2) hx hb dX7_clique_2 (by decide) ?_
  refine lv_istore_n (lv' := [(3, .int (0 : Int32)), (2, .int (0 : Int32)), (0, .ref wo), (1, .ref so)]) (pc := 3) hx hb dX7_clique_3 rfl hl (by decide) rfl (fun ls hl => ?_)
  obtain ⟨x2_4, hL3, hF⟩ := ob1_e hF
  have ex3 : ∀ (ls : Array Slot), lv_has ls 4 [(2, .int x2_4)] → W p l e (zRm 1 22) s m args below meth c s.heap [] 0 0 Q (F0 m 34 ls []) := by
    intro ls hl
    refine lv_iload_n (pc := 34) hx hb dX7_clique_34 rfl (lv_at hl 0 rfl) ?_
    cases hF
    exact hRet _ _ rfl dX7_clique_35
  have lp3 : ∀ (n : Nat) (x3_2 : Int32) (x2_3 : Int32) (ls : Array Slot), olp (fX7_clique_s4 sn ord earl sl sfin swk snear) n (x3_2, x2_3) = some x2_4 → lv_has ls 4 [(3, .int x3_2), (2, .int x2_3), (0, .ref wo), (1, .ref so)] → W p l e (zRm 1 22) s m args below meth c s.heap [] 0 0 Q (F0 m 4 ls []) := by
    intro n
    induction n with
    | zero => intro x3_2 x2_3 ls hL; exact olp_0 hL
    | succ n ih =>
      intro x3_2 x2_3 ls hL3 hl
      obtain ⟨z, hz3, hL3⟩ := olp_e hL3
      have hz3 : fX7_clique_b4 sn ord earl sl sfin swk snear x3_2 x2_3 = some z := hz3
      unfold fX7_clique_b4 at hz3
      refine lv_iload_n (pc := 4) hx hb dX7_clique_4 rfl (lv_at hl 0 rfl) ?_
      refine lv_aload_n (pc := 5) hx hb dX7_clique_5 rfl (lv_at hl 3 rfl) ?_
      refine va_get (pc := 6) (ci := 6) (C := RX6) (T := TX6) (N := 8) hx hb hts inX6 hown hK hP 3 rfl rfl 0 (by decide) fl38 (fun _ h9 => h9) rfl dX7_clique_6 ?_
      refine lv_icmp_ge (pc := 9) (tgt := 34) hx hb dX7_clique_9 (by decide) (fun hc => ?_) (fun hc => ?_)
      · have hz3 := oif_t hz3 hc
        have hE := olp_r hz3 hL3
        cases hE
        exact ex3 _ (lv_sub hl [1] rfl)
      · have hz3 := oif_f hz3 hc
        refine lv_iload_n (pc := 12) hx hb dX7_clique_12 rfl (lv_at hl 1 rfl) ?_
        refine lv_iconst (v := (1 : Int32)) (pc := 13) hx hb dX7_clique_13 (by decide) ?_
        refine lv_aload_n (pc := 14) hx hb dX7_clique_14 rfl (lv_at hl 2 rfl) ?_
        refine lv_aload_n (pc := 15) hx hb dX7_clique_15 rfl (lv_at hl 3 rfl) ?_
        refine lv_iload_n (pc := 16) hx hb dX7_clique_16 rfl (lv_at hl 0 rfl) ?_
        obtain ⟨r_3, hC4, hz3⟩ := ob1_e hz3
        refine zVr (pc := 17) (As := [.ref so, .int x3_2]) (rest := [.int (1 : Int32), .int x2_3]) E (tX7_nearAhead l D cI cZ cM cS wo wd wr we so sca sna sla sra ord earl sn sl sfin swk snear x3_2 hC4) 2 gX7_clique_X7_nearAhead rfl rfl rfl (by decide +kernel) ⟨Nat.le_of_ble_eq_true rfl, Nat.le_of_ble_eq_true rfl⟩ hK hP [0, 1, 2, 3, 4] rfl 0 7 rfl rfl rfl rfl hl.1 rfl (Nat.le_of_ble_eq_true rfl) dX7_clique_17 ⟨Nat.zero_le _, Nat.zero_le _⟩ ?_
        obtain ⟨r_4, hC5, hz3⟩ := ob1_e hz3
        refine zSr (pc := 20) (As := [.int r_3]) (rest := [.int (1 : Int32), .int x2_3]) E (tJ6_bitCount_0f7a4 l D cI cZ cM cS r_3 hC5) 1 gX7_clique_J6_bitCount_0f7a4 rfl rfl rfl (by decide +kernel) ⟨Nat.le_of_ble_eq_true rfl, Nat.le_of_ble_eq_true rfl⟩ hK hP [] rfl rfl hl.1 rfl (Nat.le_of_ble_eq_true rfl) dX7_clique_20 ⟨Nat.zero_le _, Nat.zero_le _⟩ ?_
        refine lv_iadd (pc := 23) hx hb dX7_clique_23 ?_
        refine va_mmax (pc := 24) hx hb (hml.trans hl.1.symm) hown (hts (.methodLink RX7 66 Lib.Math.max.name) (by decide +kernel)) (hts (.static Lib.Math.max.name) (by decide +kernel)) (hts (.initialized "java/lang/Math") (by decide +kernel)) (hts (.code Lib.Math.max.name Lib.Math.max.code 2 (some .int)) (by decide +kernel)) (Nat.le_of_ble_eq_true rfl) (Nat.le_of_ble_eq_true rfl) (Nat.zero_le _) (Nat.zero_le _) dX7_clique_24 ?_
        refine lv_topi (fun x2_5 ex2_5 => ?_)
        have hz3 := onm_e hz3 x2_5 ex2_5
        refine lv_istore_n (lv' := [(2, .int x2_5), (3, .int x3_2), (0, .ref wo), (1, .ref so)]) (pc := 27) hx hb dX7_clique_27 rfl hl (by decide) rfl (fun ls hl => ?_)
        refine lv_iinc (v := (x3_2 + (1 : Int32))) (lv' := [(3, .int (x3_2 + (1 : Int32))), (2, .int x2_5), (0, .ref wo), (1, .ref so)]) (pc := 28) hx hb dX7_clique_28 hl (k := 1) rfl rfl (by decide) rfl (fun ls hl => ?_)
        refine lv_goto (pc := 31) (tgt := 4) hx hb dX7_clique_31 (by decide) ?_
        exact ih _ _ _ (olp_l hz3 hL3) (lv_sub hl [0, 1, 2, 3] rfl)
  exact lp3 oFu _ _ _ hL3 (lv_sub hl [0, 1, 2, 3] rfl)
