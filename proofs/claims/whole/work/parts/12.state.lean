def fX6_all (sn : Int32) (sl : Int32) (sfin : Int32) (swk : Int32) : Option (Int32) := (some (((1 : Int32) <<< (sn &&& 31)) - (1 : Int32)))
abbrev wX6_all (cI cZ cM cS : ClassId) (so sca sna sla sra : Nat) (sn : Int32) (sl : Int32) (sfin : Int32) (swk : Int32) : va_W := [(so, .inr (6, [.int sn, .int sl, .int sfin, .int swk, .ref sca, .ref sna, .ref sla, .ref sra]))]
set_option maxHeartbeats 4000000 in
set_option maxRecDepth 100000 in
theorem tX6_all (l : Launch) (D : va_G) (cI cZ cM cS : ClassId) (so sca sna sla sra : Nat) (sn : Int32) (sl : Int32) (sfin : Int32) (swk : Int32) {r : Int32} (hF : fX6_all sn sl sfin swk = some r) : zCR l yX6_all wsX6_all (zRm 0 0) D (zTy cI cZ cM cS) [.ref so] (wX6_all cI cZ cM cS so sca sna sla sra sn sl sfin swk) r := by
  unfold fX6_all at hF
  refine zCR_of (cc := cX6_all) (maxL := 1) (own := RX6) (by decide +kernel) rfl rfl (Nat.le_of_ble_eq_true rfl) (fun p e s m args below meth c Q ls E hK hP hRet hl => ?_)
  have hl : lv_has ls 1 [(0, .ref so)] := hl
  obtain ⟨hx, hb, hml, hown, hts⟩ := id E
  have inX6 : ∀ w ∈ u_ws RX6 TX6 8, w ∈ wsX6_all := by decide +kernel
  have fl32 := hts (.fieldLink RX6 32 "SplitClasses$State" "n" "I") (by decide +kernel)
  refine lv_iconst (v := (1 : Int32)) (pc := 0) hx hb dX6_all_0 (by decide) ?_
  refine lv_aload_n (pc := 1) hx hb dX6_all_1 rfl (lv_at hl 0 rfl) ?_
  refine va_get (pc := 2) (ci := 6) (C := RX6) (T := TX6) (N := 8) hx hb hts inX6 hown hK hP 0 rfl rfl 0 (by decide) fl32 (fun _ h9 => h9) rfl dX6_all_2 ?_
  refine lv_ishl (pc := 5) hx hb dX6_all_5 ?_
  refine lv_iconst (v := (1 : Int32)) (pc := 6) hx hb dX6_all_6 (by decide) ?_
  refine lv_isub (pc := 7) hx hb dX6_all_7 ?_
  cases hF
  exact hRet _ _ rfl dX6_all_8
def fX6_hasItem (p1 : Int32) (sn : Int32) (sl : Int32) (sfin : Int32) (swk : Int32) : Option (Int32) := (if p1 < (0 : Int32) then (some (0 : Int32)) else (if sn ≤ p1 then (some (0 : Int32)) else (some (1 : Int32))))
abbrev wX6_hasItem (cI cZ cM cS : ClassId) (so sca sna sla sra : Nat) (sn : Int32) (sl : Int32) (sfin : Int32) (swk : Int32) : va_W := [(so, .inr (6, [.int sn, .int sl, .int sfin, .int swk, .ref sca, .ref sna, .ref sla, .ref sra]))]
set_option maxHeartbeats 4000000 in
set_option maxRecDepth 100000 in
theorem tX6_hasItem (l : Launch) (D : va_G) (cI cZ cM cS : ClassId) (so sca sna sla sra : Nat) (sn : Int32) (sl : Int32) (sfin : Int32) (swk : Int32) (p1 : Int32) {r : Int32} (hF : fX6_hasItem p1 sn sl sfin swk = some r) : zCR l yX6_hasItem wsX6_hasItem (zRm 0 0) D (zTy cI cZ cM cS) [.ref so, .int p1] (wX6_hasItem cI cZ cM cS so sca sna sla sra sn sl sfin swk) r := by
  unfold fX6_hasItem at hF
  refine zCR_of (cc := cX6_hasItem) (maxL := 2) (own := RX6) (by decide +kernel) rfl rfl (Nat.le_of_ble_eq_true rfl) (fun p e s m args below meth c Q ls E hK hP hRet hl => ?_)
  have hl : lv_has ls 2 [(0, .ref so), (1, .int p1)] := hl
  obtain ⟨hx, hb, hml, hown, hts⟩ := id E
  have inX6 : ∀ w ∈ u_ws RX6 TX6 8, w ∈ wsX6_hasItem := by decide +kernel
  have fl32 := hts (.fieldLink RX6 32 "SplitClasses$State" "n" "I") (by decide +kernel)
  refine lv_iload_n (pc := 0) hx hb dX6_hasItem_0 rfl (lv_at hl 1 rfl) ?_
  refine lv_if_lt (pc := 1) (tgt := 16) hx hb dX6_hasItem_1 (by decide) (fun hc => ?_) (fun hc => ?_)
  · have hF := oif_t hF hc
    refine lv_iconst (v := (0 : Int32)) (pc := 16) hx hb dX6_hasItem_16 (by decide) ?_
    cases hF
    exact hRet _ _ rfl dX6_hasItem_17
  · have hF := oif_f hF hc
    refine lv_iload_n (pc := 4) hx hb dX6_hasItem_4 rfl (lv_at hl 1 rfl) ?_
    refine lv_aload_n (pc := 5) hx hb dX6_hasItem_5 rfl (lv_at hl 0 rfl) ?_
    refine va_get (pc := 6) (ci := 6) (C := RX6) (T := TX6) (N := 8) hx hb hts inX6 hown hK hP 0 rfl rfl 0 (by decide) fl32 (fun _ h9 => h9) rfl dX6_hasItem_6 ?_
    refine lv_icmp_ge (pc := 9) (tgt := 16) hx hb dX6_hasItem_9 (by decide) (fun hc => ?_) (fun hc => ?_)
    · have hF := oif_t hF hc
      refine lv_iconst (v := (0 : Int32)) (pc := 16) hx hb dX6_hasItem_16 (by decide) ?_
      cases hF
      exact hRet _ _ rfl dX6_hasItem_17
    · have hF := oif_f hF hc
      refine lv_iconst (v := (1 : Int32)) (pc := 12) hx hb dX6_hasItem_12 (by decide) ?_
      refine lv_goto (pc := 13) (tgt := 17) hx hb dX6_hasItem_13 (by decide) ?_
      cases hF
      exact hRet _ _ rfl dX6_hasItem_17
def fX6_hasItemsOf (p1 : Int32) (sn : Int32) (sl : Int32) (sfin : Int32) (swk : Int32) : Option (Int32) := (ob1 (fX6_all sn sl sfin swk) (fun r_1 => (if (p1 &&& (r_1 ^^^ (-1 : Int32))) = (0 : Int32) then (some (1 : Int32)) else (some (0 : Int32)))))
abbrev wX6_hasItemsOf (cI cZ cM cS : ClassId) (so sca sna sla sra : Nat) (sn : Int32) (sl : Int32) (sfin : Int32) (swk : Int32) : va_W := [(so, .inr (6, [.int sn, .int sl, .int sfin, .int swk, .ref sca, .ref sna, .ref sla, .ref sra]))]
set_option maxHeartbeats 4000000 in
set_option maxRecDepth 100000 in
theorem tX6_hasItemsOf (l : Launch) (D : va_G) (cI cZ cM cS : ClassId) (so sca sna sla sra : Nat) (sn : Int32) (sl : Int32) (sfin : Int32) (swk : Int32) (p1 : Int32) {r : Int32} (hF : fX6_hasItemsOf p1 sn sl sfin swk = some r) : zCR l yX6_hasItemsOf wsX6_hasItemsOf (zRm 1 20) D (zTy cI cZ cM cS) [.ref so, .int p1] (wX6_hasItemsOf cI cZ cM cS so sca sna sla sra sn sl sfin swk) r := by
  unfold fX6_hasItemsOf at hF
  refine zCR_of (cc := cX6_hasItemsOf) (maxL := 2) (own := RX6) (by decide +kernel) rfl rfl (Nat.le_of_ble_eq_true rfl) (fun p e s m args below meth c Q ls E hK hP hRet hl => ?_)
  have hl : lv_has ls 2 [(0, .ref so), (1, .int p1)] := hl
  obtain ⟨hx, hb, hml, hown, hts⟩ := id E
  refine lv_iload_n (pc := 0) hx hb dX6_hasItemsOf_0 rfl (lv_at hl 1 rfl) ?_
  refine lv_aload_n (pc := 1) hx hb dX6_hasItemsOf_1 rfl (lv_at hl 0 rfl) ?_
  obtain ⟨r_1, hC1, hF⟩ := ob1_e hF
  refine zVr (pc := 2) (As := []) (rest := [.int p1]) E (tX6_all l D cI cZ cM cS so sca sna sla sra sn sl sfin swk hC1) 0 gX6_hasItemsOf_X6_all rfl rfl rfl (by decide +kernel) ⟨Nat.le_of_ble_eq_true rfl, Nat.le_of_ble_eq_true rfl⟩ hK hP [0] rfl 0 6 rfl rfl rfl rfl hl.1 rfl (Nat.le_of_ble_eq_true rfl) dX6_hasItemsOf_2 ⟨Nat.zero_le _, Nat.zero_le _⟩ ?_
  refine lv_iconst (v := (-1 : Int32)) (pc := 5) hx hb dX6_hasItemsOf_5 (by decide) ?_
  refine lv_ixor (pc := 6) hx hb dX6_hasItemsOf_6 ?_
  refine lv_iand (pc := 7) hx hb dX6_hasItemsOf_7 ?_
  refine lv_if_ne (pc := 8) (tgt := 15) hx hb dX6_hasItemsOf_8 (by decide) (fun hc => ?_) (fun hc => ?_)
  · have hF := oif_f hF hc
    refine lv_iconst (v := (0 : Int32)) (pc := 15) hx hb dX6_hasItemsOf_15 (by decide) ?_
    cases hF
    exact hRet _ _ rfl dX6_hasItemsOf_16
  · have hF := oif_t hF hc
    refine lv_iconst (v := (1 : Int32)) (pc := 11) hx hb dX6_hasItemsOf_11 (by decide) ?_
    refine lv_goto (pc := 12) (tgt := 16) hx hb dX6_hasItemsOf_12 (by decide) ?_
    cases hF
    exact hRet _ _ rfl dX6_hasItemsOf_16
def fX6_hasLetter (p1 : Int32) (sn : Int32) (sl : Int32) (sfin : Int32) (swk : Int32) : Option (Int32) := (if p1 < (0 : Int32) then (some (0 : Int32)) else (if sl ≤ p1 then (some (0 : Int32)) else (some (1 : Int32))))
abbrev wX6_hasLetter (cI cZ cM cS : ClassId) (so sca sna sla sra : Nat) (sn : Int32) (sl : Int32) (sfin : Int32) (swk : Int32) : va_W := [(so, .inr (6, [.int sn, .int sl, .int sfin, .int swk, .ref sca, .ref sna, .ref sla, .ref sra]))]
set_option maxHeartbeats 4000000 in
set_option maxRecDepth 100000 in
theorem tX6_hasLetter (l : Launch) (D : va_G) (cI cZ cM cS : ClassId) (so sca sna sla sra : Nat) (sn : Int32) (sl : Int32) (sfin : Int32) (swk : Int32) (p1 : Int32) {r : Int32} (hF : fX6_hasLetter p1 sn sl sfin swk = some r) : zCR l yX6_hasLetter wsX6_hasLetter (zRm 0 0) D (zTy cI cZ cM cS) [.ref so, .int p1] (wX6_hasLetter cI cZ cM cS so sca sna sla sra sn sl sfin swk) r := by
  unfold fX6_hasLetter at hF
  refine zCR_of (cc := cX6_hasLetter) (maxL := 2) (own := RX6) (by decide +kernel) rfl rfl (Nat.le_of_ble_eq_true rfl) (fun p e s m args below meth c Q ls E hK hP hRet hl => ?_)
  have hl : lv_has ls 2 [(0, .ref so), (1, .int p1)] := hl
  obtain ⟨hx, hb, hml, hown, hts⟩ := id E
  have inX6 : ∀ w ∈ u_ws RX6 TX6 8, w ∈ wsX6_hasLetter := by decide +kernel
  have fl42 := hts (.fieldLink RX6 42 "SplitClasses$State" "letterCount" "I") (by decide +kernel)
  refine lv_iload_n (pc := 0) hx hb dX6_hasLetter_0 rfl (lv_at hl 1 rfl) ?_
  refine lv_if_lt (pc := 1) (tgt := 16) hx hb dX6_hasLetter_1 (by decide) (fun hc => ?_) (fun hc => ?_)
  · have hF := oif_t hF hc
    refine lv_iconst (v := (0 : Int32)) (pc := 16) hx hb dX6_hasLetter_16 (by decide) ?_
    cases hF
    exact hRet _ _ rfl dX6_hasLetter_17
  · have hF := oif_f hF hc
    refine lv_iload_n (pc := 4) hx hb dX6_hasLetter_4 rfl (lv_at hl 1 rfl) ?_
    refine lv_aload_n (pc := 5) hx hb dX6_hasLetter_5 rfl (lv_at hl 0 rfl) ?_
    refine va_get (pc := 6) (ci := 6) (C := RX6) (T := TX6) (N := 8) hx hb hts inX6 hown hK hP 0 rfl rfl 1 (by decide) fl42 (fun _ h9 => h9) rfl dX6_hasLetter_6 ?_
    refine lv_icmp_ge (pc := 9) (tgt := 16) hx hb dX6_hasLetter_9 (by decide) (fun hc => ?_) (fun hc => ?_)
    · have hF := oif_t hF hc
      refine lv_iconst (v := (0 : Int32)) (pc := 16) hx hb dX6_hasLetter_16 (by decide) ?_
      cases hF
      exact hRet _ _ rfl dX6_hasLetter_17
    · have hF := oif_f hF hc
      refine lv_iconst (v := (1 : Int32)) (pc := 12) hx hb dX6_hasLetter_12 (by decide) ?_
      refine lv_goto (pc := 13) (tgt := 17) hx hb dX6_hasLetter_13 (by decide) ?_
      cases hF
      exact hRet _ _ rfl dX6_hasLetter_17
def fX6_leadsTo (p1 : Int32) (p2 : Int32) (sn : Int32) (sl : Int32) (sfin : Int32) (swk : Int32) (slds : (Nat → Int32)) : Option (Int32) := (ob1 (fX6_hasItem p1 sn sl sfin swk) (fun r_1 => (if r_1 = (0 : Int32) then (some (-1 : Int32)) else (ob1 (fX6_hasLetter p2 sn sl sfin swk) (fun r_2 => (if r_2 = (0 : Int32) then (some (-1 : Int32)) else (ogd ((p2 * (12 : Int32)) + p1) 36 (some (slds (Int32.toNatClampNeg ((p2 * (12 : Int32)) + p1)))))))))))
abbrev wX6_leadsTo (cI cZ cM cS : ClassId) (so sca sna sla sra : Nat) (sn : Int32) (sl : Int32) (sfin : Int32) (swk : Int32) (slds : (Nat → Int32)) : va_W := [(so, .inr (6, [.int sn, .int sl, .int sfin, .int swk, .ref sca, .ref sna, .ref sla, .ref sra])), (sla, .inl (cI, 36, .inl slds))]
set_option maxHeartbeats 4000000 in
set_option maxRecDepth 100000 in
theorem tX6_leadsTo (l : Launch) (D : va_G) (cI cZ cM cS : ClassId) (so sca sna sla sra : Nat) (sn : Int32) (sl : Int32) (sfin : Int32) (swk : Int32) (slds : (Nat → Int32)) (p1 : Int32) (p2 : Int32) {r : Int32} (hF : fX6_leadsTo p1 p2 sn sl sfin swk slds = some r) : zCR l yX6_leadsTo wsX6_leadsTo (zRm 1 21) D (zTy cI cZ cM cS) [.ref so, .int p1, .int p2] (wX6_leadsTo cI cZ cM cS so sca sna sla sra sn sl sfin swk slds) r := by
  unfold fX6_leadsTo at hF
  refine zCR_of (cc := cX6_leadsTo) (maxL := 3) (own := RX6) (by decide +kernel) rfl rfl (Nat.le_of_ble_eq_true rfl) (fun p e s m args below meth c Q ls E hK hP hRet hl => ?_)
  have hl : lv_has ls 3 [(0, .ref so), (1, .int p1), (2, .int p2)] := hl
  obtain ⟨hx, hb, hml, hown, hts⟩ := id E
  have inX6 : ∀ w ∈ u_ws RX6 TX6 8, w ∈ wsX6_leadsTo := by decide +kernel
  have fl18 := hts (.fieldLink RX6 18 "SplitClasses$State" "leads" "[I") (by decide +kernel)
  refine lv_aload_n (pc := 0) hx hb dX6_leadsTo_0 rfl (lv_at hl 0 rfl) ?_
  refine lv_iload_n (pc := 1) hx hb dX6_leadsTo_1 rfl (lv_at hl 1 rfl) ?_
  obtain ⟨r_1, hC1, hF⟩ := ob1_e hF
  refine zVr (pc := 2) (As := [.int p1]) (rest := []) E (tX6_hasItem l D cI cZ cM cS so sca sna sla sra sn sl sfin swk p1 hC1) 1 gX6_leadsTo_X6_hasItem rfl rfl rfl (by decide +kernel) ⟨Nat.le_of_ble_eq_true rfl, Nat.le_of_ble_eq_true rfl⟩ hK hP [0] rfl 0 6 rfl rfl rfl rfl hl.1 rfl (Nat.le_of_ble_eq_true rfl) dX6_leadsTo_2 ⟨Nat.zero_le _, Nat.zero_le _⟩ ?_
  refine lv_if_eq (pc := 5) (tgt := 30) hx hb dX6_leadsTo_5 (by decide) (fun hc => ?_) (fun hc => ?_)
  · have hF := oif_t hF hc
    refine lv_iconst (v := (-1 : Int32)) (pc := 30) hx hb dX6_leadsTo_30 (by decide) ?_
    cases hF
    exact hRet _ _ rfl dX6_leadsTo_31
  · have hF := oif_f hF hc
    refine lv_aload_n (pc := 8) hx hb dX6_leadsTo_8 rfl (lv_at hl 0 rfl) ?_
    refine lv_iload_n (pc := 9) hx hb dX6_leadsTo_9 rfl (lv_at hl 2 rfl) ?_
    obtain ⟨r_2, hC2, hF⟩ := ob1_e hF
    refine zVr (pc := 10) (As := [.int p2]) (rest := []) E (tX6_hasLetter l D cI cZ cM cS so sca sna sla sra sn sl sfin swk p2 hC2) 1 gX6_leadsTo_X6_hasLetter rfl rfl rfl (by decide +kernel) ⟨Nat.le_of_ble_eq_true rfl, Nat.le_of_ble_eq_true rfl⟩ hK hP [0] rfl 0 6 rfl rfl rfl rfl hl.1 rfl (Nat.le_of_ble_eq_true rfl) dX6_leadsTo_10 ⟨Nat.zero_le _, Nat.zero_le _⟩ ?_
    refine lv_if_eq (pc := 13) (tgt := 30) hx hb dX6_leadsTo_13 (by decide) (fun hc => ?_) (fun hc => ?_)
    · have hF := oif_t hF hc
      refine lv_iconst (v := (-1 : Int32)) (pc := 30) hx hb dX6_leadsTo_30 (by decide) ?_
      cases hF
      exact hRet _ _ rfl dX6_leadsTo_31
    · have hF := oif_f hF hc
      refine lv_aload_n (pc := 16) hx hb dX6_leadsTo_16 rfl (lv_at hl 0 rfl) ?_
      refine va_get (pc := 17) (ci := 6) (C := RX6) (T := TX6) (N := 8) hx hb hts inX6 hown hK hP 0 rfl rfl 6 (by decide) fl18 (fun _ h9 => h9) rfl dX6_leadsTo_17 ?_
      refine lv_iload_n (pc := 20) hx hb dX6_leadsTo_20 rfl (lv_at hl 2 rfl) ?_
      refine lv_bipush (v := (12 : Int32)) (pc := 21) hx hb dX6_leadsTo_21 (by decide) ?_
      refine lv_imul (pc := 23) hx hb dX6_leadsTo_23 ?_
      refine lv_iload_n (pc := 24) hx hb dX6_leadsTo_24 rfl (lv_at hl 1 rfl) ?_
      refine lv_iadd (pc := 25) hx hb dX6_leadsTo_25 ?_
      obtain ⟨hg3, hF⟩ := ogd_e hF
      refine va_iald (pc := 26) hx hb hK hP 1 0 rfl rfl hg3 dX6_leadsTo_26 ?_
      refine lv_goto (pc := 27) (tgt := 31) hx hb dX6_leadsTo_27 (by decide) ?_
      cases hF
      exact hRet _ _ rfl dX6_leadsTo_31
def fX6_lead (p1 : Int32) (p2 : Int32) (p3 : Int32) (sn : Int32) (sl : Int32) (sfin : Int32) (swk : Int32) (slds : (Nat → Int32)) : Option ((Nat → Int32)) := (ob1 (fX6_hasItem p1 sn sl sfin swk) (fun r_1 => (if r_1 = (0 : Int32) then (some slds) else (ob1 (fX6_hasLetter p2 sn sl sfin swk) (fun r_2 => (if r_2 = (0 : Int32) then (some slds) else (ob1 (fX6_hasItem p3 sn sl sfin swk) (fun r_3 => (if r_3 = (0 : Int32) then (some slds) else (ogd ((p2 * (12 : Int32)) + p1) 36 (some (upd slds (Int32.toNatClampNeg ((p2 * (12 : Int32)) + p1)) p3))))))))))))
abbrev wX6_lead (cI cZ cM cS : ClassId) (so sca sna sla sra : Nat) (sn : Int32) (sl : Int32) (sfin : Int32) (swk : Int32) (slds : (Nat → Int32)) : va_W := [(so, .inr (6, [.int sn, .int sl, .int sfin, .int swk, .ref sca, .ref sna, .ref sla, .ref sra])), (sla, .inl (cI, 36, .inl slds))]
set_option maxHeartbeats 4000000 in
set_option maxRecDepth 100000 in
theorem tX6_lead (l : Launch) (D : va_G) (cI cZ cM cS : ClassId) (so sca sna sla sra : Nat) (sn : Int32) (sl : Int32) (sfin : Int32) (swk : Int32) (slds : (Nat → Int32)) (p1 : Int32) (p2 : Int32) (p3 : Int32) {slds' : (Nat → Int32)} (hF : fX6_lead p1 p2 p3 sn sl sfin swk slds = some slds') : zCW l yX6_lead wsX6_lead (zRm 1 21) D (zTy cI cZ cM cS) [.ref so, .int p1, .int p2, .int p3] (wX6_lead cI cZ cM cS so sca sna sla sra sn sl sfin swk slds) (wX6_lead cI cZ cM cS so sca sna sla sra sn sl sfin swk slds') none := by
  unfold fX6_lead at hF
  refine zCW_ofv (cc := cX6_lead) (maxL := 4) (own := RX6) (by decide) rfl rfl (Nat.le_of_ble_eq_true rfl) (fun p e s m args below meth c Q ls A E hA hK hP hD hRet hS hl => ?_)
  refine zgen (fun H locs hP hS => ?_) hP hS
  have hl : lv_has ls 4 [(0, .ref so), (1, .int p1), (2, .int p2), (3, .int p3)] := hl
  obtain ⟨hx, hb, hml, hown, hts⟩ := id E
  have inX6 : ∀ w ∈ u_ws RX6 TX6 8, w ∈ wsX6_lead := by decide +kernel
  have fl18 := hts (.fieldLink RX6 18 "SplitClasses$State" "leads" "[I") (by decide +kernel)
  refine lv_aload_n (pc := 0) hx hb dX6_lead_0 rfl (lv_at hl 0 rfl) ?_
  refine lv_iload_n (pc := 1) hx hb dX6_lead_1 rfl (lv_at hl 1 rfl) ?_
  obtain ⟨r_1, hC1, hF⟩ := ob1_e hF
  refine zVr (pc := 2) (As := [.int p1]) (rest := []) E (tX6_hasItem l D cI cZ cM cS so sca sna sla sra sn sl sfin swk p1 hC1) 1 gX6_lead_X6_hasItem rfl rfl rfl (by decide +kernel) ⟨Nat.le_of_ble_eq_true rfl, Nat.le_of_ble_eq_true rfl⟩ hK hP [0] rfl 0 6 rfl rfl rfl rfl hl.1 rfl (Nat.le_of_ble_eq_true rfl) dX6_lead_2 ⟨Nat.zero_le _, Nat.zero_le _⟩ ?_
  refine lv_if_eq (pc := 5) (tgt := 36) hx hb dX6_lead_5 (by decide) (fun hc => ?_) (fun hc => ?_)
  · have hF := oif_t hF hc
    cases hF
    exact hRet _ _ _ _ dX6_lead_36 hP hD hS
  · have hF := oif_f hF hc
    refine lv_aload_n (pc := 8) hx hb dX6_lead_8 rfl (lv_at hl 0 rfl) ?_
    refine lv_iload_n (pc := 9) hx hb dX6_lead_9 rfl (lv_at hl 2 rfl) ?_
    obtain ⟨r_2, hC2, hF⟩ := ob1_e hF
    refine zVr (pc := 10) (As := [.int p2]) (rest := []) E (tX6_hasLetter l D cI cZ cM cS so sca sna sla sra sn sl sfin swk p2 hC2) 1 gX6_lead_X6_hasLetter rfl rfl rfl (by decide +kernel) ⟨Nat.le_of_ble_eq_true rfl, Nat.le_of_ble_eq_true rfl⟩ hK hP [0] rfl 0 6 rfl rfl rfl rfl hl.1 rfl (Nat.le_of_ble_eq_true rfl) dX6_lead_10 ⟨Nat.zero_le _, Nat.zero_le _⟩ ?_
    refine lv_if_eq (pc := 13) (tgt := 36) hx hb dX6_lead_13 (by decide) (fun hc => ?_) (fun hc => ?_)
    · have hF := oif_t hF hc
      cases hF
      exact hRet _ _ _ _ dX6_lead_36 hP hD hS
    · have hF := oif_f hF hc
      refine lv_aload_n (pc := 16) hx hb dX6_lead_16 rfl (lv_at hl 0 rfl) ?_
      refine lv_iload_n (pc := 17) hx hb dX6_lead_17 rfl (lv_at hl 3 rfl) ?_
      obtain ⟨r_3, hC3, hF⟩ := ob1_e hF
      refine zVr (pc := 18) (As := [.int p3]) (rest := []) E (tX6_hasItem l D cI cZ cM cS so sca sna sla sra sn sl sfin swk p3 hC3) 1 gX6_lead_X6_hasItem rfl rfl rfl (by decide +kernel) ⟨Nat.le_of_ble_eq_true rfl, Nat.le_of_ble_eq_true rfl⟩ hK hP [0] rfl 0 6 rfl rfl rfl rfl hl.1 rfl (Nat.le_of_ble_eq_true rfl) dX6_lead_18 ⟨Nat.zero_le _, Nat.zero_le _⟩ ?_
      refine lv_if_eq (pc := 21) (tgt := 36) hx hb dX6_lead_21 (by decide) (fun hc => ?_) (fun hc => ?_)
      · have hF := oif_t hF hc
        cases hF
        exact hRet _ _ _ _ dX6_lead_36 hP hD hS
      · have hF := oif_f hF hc
        refine lv_aload_n (pc := 24) hx hb dX6_lead_24 rfl (lv_at hl 0 rfl) ?_
        refine va_get (pc := 25) (ci := 6) (C := RX6) (T := TX6) (N := 8) hx hb hts inX6 hown hK hP 0 rfl rfl 6 (by decide) fl18 (fun _ h9 => h9) rfl dX6_lead_25 ?_
        refine lv_iload_n (pc := 28) hx hb dX6_lead_28 rfl (lv_at hl 2 rfl) ?_
        refine lv_bipush (v := (12 : Int32)) (pc := 29) hx hb dX6_lead_29 (by decide) ?_
        refine lv_imul (pc := 31) hx hb dX6_lead_31 ?_
        refine lv_iload_n (pc := 32) hx hb dX6_lead_32 rfl (lv_at hl 1 rfl) ?_
        refine lv_iadd (pc := 33) hx hb dX6_lead_33 ?_
        refine lv_iload_n (pc := 34) hx hb dX6_lead_34 rfl (lv_at hl 3 rfl) ?_
        obtain ⟨hg4, hF⟩ := ogd_e hF
        refine va_iast (pc := 35) hx hb hK hP hD hS 1 0 rfl rfl hg4 dX6_lead_35 (fun H locs hP hD hS => ?_)
        have hP : va_P D vwCl (wX6_lead cI cZ cM cS so sca sna sla sra sn sl sfin swk (upd slds (Int32.toNatClampNeg ((p2 * (12 : Int32)) + p1)) p3)) H := hP
        have hD : va_D A (wX6_lead cI cZ cM cS so sca sna sla sra sn sl sfin swk (upd slds (Int32.toNatClampNeg ((p2 * (12 : Int32)) + p1)) p3)) := hD
        cases hF
        exact hRet _ _ _ _ dX6_lead_36 hP hD hS
def fX6_takeLetters_b20 (sn : Int32) (x3_2 : Int32) (p1 : Int32) (sfin : Int32) (swk : Int32) (x4_4 : Int32) (slds_11 : (Nat → Int32)) : Option ((Int32 × (Nat → Int32)) ⊕ ((Nat → Int32))) := (if sn ≤ x4_4 then (some (.inr slds_11)) else (ob1 (fX6_lead x4_4 x3_2 x4_4 sn p1 sfin swk slds_11) (fun slds_13 => (some (.inl ((x4_4 + (1 : Int32)), slds_13))))))
def fX6_takeLetters_s20 (sn : Int32) (x3_2 : Int32) (p1 : Int32) (sfin : Int32) (swk : Int32) (sg_ : Int32 × (Nat → Int32)) : Option ((Int32 × (Nat → Int32)) ⊕ ((Nat → Int32))) := fX6_takeLetters_b20 sn x3_2 p1 sfin swk sg_.1 sg_.2
def fX6_takeLetters_b12 (p1 : Int32) (sn : Int32) (sfin : Int32) (swk : Int32) (x3_2 : Int32) (slds_7 : (Nat → Int32)) : Option ((Int32 × (Nat → Int32)) ⊕ ((Nat → Int32))) := (if p1 ≤ x3_2 then (some (.inr slds_7)) else (ob1 (olp (fX6_takeLetters_s20 sn x3_2 p1 sfin swk) oFu ((0 : Int32), slds_7)) (fun slds_12 => (some (.inl ((x3_2 + (1 : Int32)), slds_12))))))
def fX6_takeLetters_s12 (p1 : Int32) (sn : Int32) (sfin : Int32) (swk : Int32) (sg_ : Int32 × (Nat → Int32)) : Option ((Int32 × (Nat → Int32)) ⊕ ((Nat → Int32))) := fX6_takeLetters_b12 p1 sn sfin swk sg_.1 sg_.2
def fX6_takeLetters (p1 : Int32) (sn : Int32) (sl : Int32) (sfin : Int32) (swk : Int32) (slds : (Nat → Int32)) : Option (Int32 × (Nat → Int32)) := (ob1 (olp (fX6_takeLetters_s12 p1 sn sfin swk) oFu (sl, slds)) (fun slds_8 => (some (p1, slds_8))))
abbrev wX6_takeLetters (cI cZ cM cS : ClassId) (so sca sna sla sra : Nat) (sn : Int32) (sl : Int32) (sfin : Int32) (swk : Int32) (slds : (Nat → Int32)) : va_W := [(so, .inr (6, [.int sn, .int sl, .int sfin, .int swk, .ref sca, .ref sna, .ref sla, .ref sra])), (sla, .inl (cI, 36, .inl slds))]
set_option maxHeartbeats 4000000 in
set_option maxRecDepth 100000 in
theorem tX6_takeLetters (l : Launch) (D : va_G) (cI cZ cM cS : ClassId) (so sca sna sla sra : Nat) (sn : Int32) (sl : Int32) (sfin : Int32) (swk : Int32) (slds : (Nat → Int32)) (p1 : Int32) {sl' : Int32} {slds' : (Nat → Int32)} (hF : fX6_takeLetters p1 sn sl sfin swk slds = some (sl', slds')) : zCW l yX6_takeLetters wsX6_takeLetters (zRm 2 44) D (zTy cI cZ cM cS) [.ref so, .int p1] (wX6_takeLetters cI cZ cM cS so sca sna sla sra sn sl sfin swk slds) (wX6_takeLetters cI cZ cM cS so sca sna sla sra sn sl' sfin swk slds') none := by
  unfold fX6_takeLetters at hF
  refine zCW_ofv (cc := cX6_takeLetters) (maxL := 5) (own := RX6) (by decide) rfl rfl (Nat.le_of_ble_eq_true rfl) (fun p e s m args below meth c Q ls A E hA hK hP hD hRet hS hl => ?_)
  refine zgen (fun H locs hP hS => ?_) hP hS
  have hl : lv_has ls 5 [(0, .ref so), (1, .int p1)] := hl
  obtain ⟨hx, hb, hml, hown, hts⟩ := id E
  have inX6 : ∀ w ∈ u_ws RX6 TX6 8, w ∈ wsX6_takeLetters := by decide +kernel
  have fl32 := hts (.fieldLink RX6 32 "SplitClasses$State" "n" "I") (by decide +kernel)
  have fl42 := hts (.fieldLink RX6 42 "SplitClasses$State" "letterCount" "I") (by decide +kernel)
  refine lv_aload_n (pc := 0) hx hb dX6_takeLetters_0 rfl (lv_at hl 0 rfl) ?_
  refine va_get (pc := 1) (ci := 6) (C := RX6) (T := TX6) (N := 8) hx hb hts inX6 hown hK hP 0 rfl rfl 1 (by decide) fl42 (fun _ h9 => h9) rfl dX6_takeLetters_1 ?_
  refine lv_istore_n (lv' := [(2, .int sl), (0, .ref so), (1, .int p1)]) (pc := 4) hx hb dX6_takeLetters_4 rfl hl (by decide) rfl (fun ls hl => ?_)
  refine lv_aload_n (pc := 5) hx hb dX6_takeLetters_5 rfl (lv_at hl 1 rfl) ?_
  refine lv_iload_n (pc := 6) hx hb dX6_takeLetters_6 rfl (lv_at hl 2 rfl) ?_
  refine va_put (pc := 7) (D := D) (ci := 6) (v := .int p1) (ty := .int) (C := RX6) (T := TX6) (N := 8) hx hb hts inX6 tyX6 tyX6_ok nmX6 hown hK hP hD hS 0 rfl rfl 1 (by decide) fl42 (fun _ h9 => h9) rfl (by decide +kernel) rfl rfl (Nat.le_of_ble_eq_true rfl) dX6_takeLetters_7 (fun H locs hP hD hS => ?_)
  have hP : va_P D vwCl (wX6_takeLetters cI cZ cM cS so sca sna sla sra sn p1 sfin swk slds) H := hP
  have hD : va_D A (wX6_takeLetters cI cZ cM cS so sca sna sla sra sn p1 sfin swk slds) := hD
  refine lv_iload_n (pc := 10) hx hb dX6_takeLetters_10 rfl (lv_at hl 0 rfl) ?_
  refine lv_istore_n (lv' := [(3, .int sl), (2, .int sl), (0, .ref so), (1, .int p1)]) (pc := 11) hx hb dX6_takeLetters_11 rfl hl (by decide) rfl (fun ls hl => ?_)
  obtain ⟨slds_8, hL4, hF⟩ := ob1_e hF
  have ex4 : ∀ (H : Heap) (locs : List Loc) (ls : Array Slot), va_P D vwCl (wX6_takeLetters cI cZ cM cS so sca sna sla sra sn p1 sfin swk slds_8) H → va_D A (wX6_takeLetters cI cZ cM cS so sca sna sla sra sn p1 sfin swk slds_8) → va_S A s.heap H locs → lv_has ls 5 [] → W p l e (zRm 2 44) s m args below meth c H locs 0 0 Q (F0 m 50 ls []) := by
    intro H locs ls hP hD hS hl
    cases hF
    exact hRet _ _ _ _ dX6_takeLetters_50 hP hD hS
  have lp4 : ∀ (n : Nat) (x3_2 : Int32) (slds_7 : (Nat → Int32)) (H : Heap) (locs : List Loc) (ls : Array Slot), olp (fX6_takeLetters_s12 p1 sn sfin swk) n (x3_2, slds_7) = some slds_8 → va_P D vwCl (wX6_takeLetters cI cZ cM cS so sca sna sla sra sn p1 sfin swk slds_7) H → va_D A (wX6_takeLetters cI cZ cM cS so sca sna sla sra sn p1 sfin swk slds_7) → va_S A s.heap H locs → lv_has ls 5 [(3, .int x3_2), (0, .ref so), (1, .int p1)] → W p l e (zRm 2 44) s m args below meth c H locs 0 0 Q (F0 m 12 ls []) := by
    intro n
    induction n with
    | zero => intro x3_2 slds_7 H locs ls hL; exact olp_0 hL
    | succ n ih =>
      intro x3_2 slds_7 H locs ls hL4 hP hD hS hl
      obtain ⟨z, hz4, hL4⟩ := olp_e hL4
      have hz4 : fX6_takeLetters_b12 p1 sn sfin swk x3_2 slds_7 = some z := hz4
      unfold fX6_takeLetters_b12 at hz4
      refine lv_iload_n (pc := 12) hx hb dX6_takeLetters_12 rfl (lv_at hl 0 rfl) ?_
      refine lv_iload_n (pc := 13) hx hb dX6_takeLetters_13 rfl (lv_at hl 2 rfl) ?_
      refine lv_icmp_ge (pc := 14) (tgt := 50) hx hb dX6_takeLetters_14 (by decide) (fun hc => ?_) (fun hc => ?_)
      · have hz4 := oif_t hz4 hc
        have hE := olp_r hz4 hL4
        cases hE
        exact ex4 _ _ _ hP hD hS (lv_sub hl [] rfl)
      · have hz4 := oif_f hz4 hc
        refine lv_iconst (v := (0 : Int32)) (pc := 17) hx hb dX6_takeLetters_17 (by decide) ?_
        refine lv_istore (lv' := [(4, .int (0 : Int32)), (3, .int x3_2), (0, .ref so), (1, .int p1)]) (pc := 18) hx hb dX6_takeLetters_18 hl (by decide) rfl (fun ls hl => ?_)
        obtain ⟨slds_12, hL6, hz4⟩ := ob1_e hz4
        have ex6 : ∀ (H : Heap) (locs : List Loc) (ls : Array Slot), va_P D vwCl (wX6_takeLetters cI cZ cM cS so sca sna sla sra sn p1 sfin swk slds_12) H → va_D A (wX6_takeLetters cI cZ cM cS so sca sna sla sra sn p1 sfin swk slds_12) → va_S A s.heap H locs → lv_has ls 5 [(3, .int x3_2), (0, .ref so), (1, .int p1)] → W p l e (zRm 2 44) s m args below meth c H locs 0 0 Q (F0 m 44 ls []) := by
          intro H locs ls hP hD hS hl
          refine lv_iinc (v := (x3_2 + (1 : Int32))) (lv' := [(3, .int (x3_2 + (1 : Int32))), (0, .ref so), (1, .int p1)]) (pc := 44) hx hb dX6_takeLetters_44 hl (k := 0) rfl rfl (by decide) rfl (fun ls hl => ?_)
          refine lv_goto (pc := 47) (tgt := 12) hx hb dX6_takeLetters_47 (by decide) ?_
          exact ih _ _ _ _ _ (olp_l hz4 hL4) hP hD hS (lv_sub hl [0, 1, 2] rfl)
        have lp6 : ∀ (n : Nat) (x4_4 : Int32) (slds_11 : (Nat → Int32)) (H : Heap) (locs : List Loc) (ls : Array Slot), olp (fX6_takeLetters_s20 sn x3_2 p1 sfin swk) n (x4_4, slds_11) = some slds_12 → va_P D vwCl (wX6_takeLetters cI cZ cM cS so sca sna sla sra sn p1 sfin swk slds_11) H → va_D A (wX6_takeLetters cI cZ cM cS so sca sna sla sra sn p1 sfin swk slds_11) → va_S A s.heap H locs → lv_has ls 5 [(4, .int x4_4), (3, .int x3_2), (0, .ref so), (1, .int p1)] → W p l e (zRm 2 44) s m args below meth c H locs 0 0 Q (F0 m 20 ls []) := by
          intro n
          induction n with
          | zero => intro x4_4 slds_11 H locs ls hL; exact olp_0 hL
          | succ n ih =>
            intro x4_4 slds_11 H locs ls hL6 hP hD hS hl
            obtain ⟨z, hz6, hL6⟩ := olp_e hL6
            have hz6 : fX6_takeLetters_b20 sn x3_2 p1 sfin swk x4_4 slds_11 = some z := hz6
            unfold fX6_takeLetters_b20 at hz6
            refine lv_iload (pc := 20) hx hb dX6_takeLetters_20 (lv_at hl 0 rfl) ?_
            refine lv_aload_n (pc := 22) hx hb dX6_takeLetters_22 rfl (lv_at hl 2 rfl) ?_
            refine va_get (pc := 23) (ci := 6) (C := RX6) (T := TX6) (N := 8) hx hb hts inX6 hown hK hP 0 rfl rfl 0 (by decide) fl32 (fun _ h9 => h9) rfl dX6_takeLetters_23 ?_
            refine lv_icmp_ge (pc := 26) (tgt := 44) hx hb dX6_takeLetters_26 (by decide) (fun hc => ?_) (fun hc => ?_)
            · have hz6 := oif_t hz6 hc
              have hE := olp_r hz6 hL6
              cases hE
              exact ex6 _ _ _ hP hD hS (lv_sub hl [1, 2, 3] rfl)
            · have hz6 := oif_f hz6 hc
              refine lv_aload_n (pc := 29) hx hb dX6_takeLetters_29 rfl (lv_at hl 2 rfl) ?_
              refine lv_iload (pc := 30) hx hb dX6_takeLetters_30 (lv_at hl 0 rfl) ?_
              refine lv_iload_n (pc := 32) hx hb dX6_takeLetters_32 rfl (lv_at hl 1 rfl) ?_
              refine lv_iload (pc := 33) hx hb dX6_takeLetters_33 (lv_at hl 0 rfl) ?_
              obtain ⟨slds_13, hC7, hz6⟩ := ob1_e hz6
              refine zV (pc := 35) (As := [.int x4_4, .int x3_2, .int x4_4]) (rest := []) (wr := []) (w2 := (wX6_takeLetters cI cZ cM cS so sca sna sla sra sn p1 sfin swk slds_13)) E (tX6_lead l D cI cZ cM cS so sca sna sla sra sn p1 sfin swk slds_11 x4_4 x3_2 x4_4 hC7) 3 gX6_takeLetters_X6_lead rfl rfl rfl (by decide +kernel) ⟨Nat.le_of_ble_eq_true rfl, Nat.le_of_ble_eq_true rfl⟩ hK hP hD hS hA [0, 1] [] [0, 1] (by decide) rfl rfl (by decide) (by decide) rfl (by decide) 0 6 rfl rfl rfl rfl hl.1 rfl (Nat.le_of_ble_eq_true rfl) dX6_takeLetters_35 ⟨Nat.zero_le _, Nat.zero_le _⟩ (fun H locs hP hD hS => ?_)
              refine W.eq (g2 := F0 m 38 ls []) rfl ?_
              refine lv_iinc (v := (x4_4 + (1 : Int32))) (lv' := [(4, .int (x4_4 + (1 : Int32))), (3, .int x3_2), (0, .ref so), (1, .int p1)]) (pc := 38) hx hb dX6_takeLetters_38 hl (k := 0) rfl rfl (by decide) rfl (fun ls hl => ?_)
              refine lv_goto (pc := 41) (tgt := 20) hx hb dX6_takeLetters_41 (by decide) ?_
              exact ih _ _ _ _ _ (olp_l hz6 hL6) hP hD hS (lv_sub hl [0, 1, 2, 3] rfl)
        exact lp6 oFu _ _ _ _ _ hL6 hP hD hS (lv_sub hl [0, 1, 2, 3] rfl)
  exact lp4 oFu _ _ _ _ _ hL4 hP hD hS (lv_sub hl [0, 2, 3] rfl)
def fX6_isEdge (p1 : Int32) (p2 : Int32) (sn : Int32) (sl : Int32) (sfin : Int32) (swk : Int32) (snear : (Nat → Int32)) : Option (Int32) := (ob1 (fX6_hasItem p1 sn sl sfin swk) (fun r_1 => (if r_1 = (0 : Int32) then (some (0 : Int32)) else (ogd p1 12 (if (((snear (Int32.toNatClampNeg p1)) >>> (p2 &&& 31)) &&& (1 : Int32)) = (0 : Int32) then (some (0 : Int32)) else (some (1 : Int32)))))))
abbrev wX6_isEdge (cI cZ cM cS : ClassId) (so sca sna sla sra : Nat) (sn : Int32) (sl : Int32) (sfin : Int32) (swk : Int32) (snear : (Nat → Int32)) : va_W := [(so, .inr (6, [.int sn, .int sl, .int sfin, .int swk, .ref sca, .ref sna, .ref sla, .ref sra])), (sna, .inl (cI, 12, .inl snear))]
set_option maxHeartbeats 4000000 in
set_option maxRecDepth 100000 in
theorem tX6_isEdge (l : Launch) (D : va_G) (cI cZ cM cS : ClassId) (so sca sna sla sra : Nat) (sn : Int32) (sl : Int32) (sfin : Int32) (swk : Int32) (snear : (Nat → Int32)) (p1 : Int32) (p2 : Int32) {r : Int32} (hF : fX6_isEdge p1 p2 sn sl sfin swk snear = some r) : zCR l yX6_isEdge wsX6_isEdge (zRm 1 21) D (zTy cI cZ cM cS) [.ref so, .int p1, .int p2] (wX6_isEdge cI cZ cM cS so sca sna sla sra sn sl sfin swk snear) r := by
  unfold fX6_isEdge at hF
  refine zCR_of (cc := cX6_isEdge) (maxL := 3) (own := RX6) (by decide +kernel) rfl rfl (Nat.le_of_ble_eq_true rfl) (fun p e s m args below meth c Q ls E hK hP hRet hl => ?_)
  have hl : lv_has ls 3 [(0, .ref so), (1, .int p1), (2, .int p2)] := hl
  obtain ⟨hx, hb, hml, hown, hts⟩ := id E
  have inX6 : ∀ w ∈ u_ws RX6 TX6 8, w ∈ wsX6_isEdge := by decide +kernel
  have fl15 := hts (.fieldLink RX6 15 "SplitClasses$State" "nearSets" "[I") (by decide +kernel)
  refine lv_aload_n (pc := 0) hx hb dX6_isEdge_0 rfl (lv_at hl 0 rfl) ?_
  refine lv_iload_n (pc := 1) hx hb dX6_isEdge_1 rfl (lv_at hl 1 rfl) ?_
  obtain ⟨r_1, hC1, hF⟩ := ob1_e hF
  refine zVr (pc := 2) (As := [.int p1]) (rest := []) E (tX6_hasItem l D cI cZ cM cS so sca sna sla sra sn sl sfin swk p1 hC1) 1 gX6_isEdge_X6_hasItem rfl rfl rfl (by decide +kernel) ⟨Nat.le_of_ble_eq_true rfl, Nat.le_of_ble_eq_true rfl⟩ hK hP [0] rfl 0 6 rfl rfl rfl rfl hl.1 rfl (Nat.le_of_ble_eq_true rfl) dX6_isEdge_2 ⟨Nat.zero_le _, Nat.zero_le _⟩ ?_
  refine lv_if_eq (pc := 5) (tgt := 25) hx hb dX6_isEdge_5 (by decide) (fun hc => ?_) (fun hc => ?_)
  · have hF := oif_t hF hc
    refine lv_iconst (v := (0 : Int32)) (pc := 25) hx hb dX6_isEdge_25 (by decide) ?_
    cases hF
    exact hRet _ _ rfl dX6_isEdge_26
  · have hF := oif_f hF hc
    refine lv_aload_n (pc := 8) hx hb dX6_isEdge_8 rfl (lv_at hl 0 rfl) ?_
    refine va_get (pc := 9) (ci := 6) (C := RX6) (T := TX6) (N := 8) hx hb hts inX6 hown hK hP 0 rfl rfl 5 (by decide) fl15 (fun _ h9 => h9) rfl dX6_isEdge_9 ?_
    refine lv_iload_n (pc := 12) hx hb dX6_isEdge_12 rfl (lv_at hl 1 rfl) ?_
    obtain ⟨hg2, hF⟩ := ogd_e hF
    refine va_iald (pc := 13) hx hb hK hP 1 0 rfl rfl hg2 dX6_isEdge_13 ?_
    refine lv_iload_n (pc := 14) hx hb dX6_isEdge_14 rfl (lv_at hl 2 rfl) ?_
    refine lv_ishr (pc := 15) hx hb dX6_isEdge_15 ?_
    refine lv_iconst (v := (1 : Int32)) (pc := 16) hx hb dX6_isEdge_16 (by decide) ?_
    refine lv_iand (pc := 17) hx hb dX6_isEdge_17 ?_
    refine lv_if_eq (pc := 18) (tgt := 25) hx hb dX6_isEdge_18 (by decide) (fun hc => ?_) (fun hc => ?_)
    · have hF := oif_t hF hc
      refine lv_iconst (v := (0 : Int32)) (pc := 25) hx hb dX6_isEdge_25 (by decide) ?_
      cases hF
      exact hRet _ _ rfl dX6_isEdge_26
    · have hF := oif_f hF hc
      refine lv_iconst (v := (1 : Int32)) (pc := 21) hx hb dX6_isEdge_21 (by decide) ?_
      refine lv_goto (pc := 22) (tgt := 26) hx hb dX6_isEdge_22 (by decide) ?_
      cases hF
      exact hRet _ _ rfl dX6_isEdge_26
def fX6_flipEdge (p1 : Int32) (p2 : Int32) (sn : Int32) (sl : Int32) (sfin : Int32) (swk : Int32) (snear : (Nat → Int32)) : Option ((Nat → Int32)) := (ob1 (fX6_hasItem p1 sn sl sfin swk) (fun r_1 => (if r_1 = (0 : Int32) then (some snear) else (ob1 (fX6_hasItem p2 sn sl sfin swk) (fun r_2 => (if r_2 = (0 : Int32) then (some snear) else (if p1 = p2 then (some snear) else (ogd p1 12 (ogd p1 12 (ogd p2 12 (ogd p2 12 (some (upd (upd snear (Int32.toNatClampNeg p1) ((snear (Int32.toNatClampNeg p1)) ^^^ ((1 : Int32) <<< (p2 &&& 31)))) (Int32.toNatClampNeg p2) (((upd snear (Int32.toNatClampNeg p1) ((snear (Int32.toNatClampNeg p1)) ^^^ ((1 : Int32) <<< (p2 &&& 31)))) (Int32.toNatClampNeg p2)) ^^^ ((1 : Int32) <<< (p1 &&& 31))))))))))))))))
abbrev wX6_flipEdge (cI cZ cM cS : ClassId) (so sca sna sla sra : Nat) (sn : Int32) (sl : Int32) (sfin : Int32) (swk : Int32) (snear : (Nat → Int32)) : va_W := [(so, .inr (6, [.int sn, .int sl, .int sfin, .int swk, .ref sca, .ref sna, .ref sla, .ref sra])), (sna, .inl (cI, 12, .inl snear))]
set_option maxHeartbeats 4000000 in
set_option maxRecDepth 100000 in
theorem tX6_flipEdge (l : Launch) (D : va_G) (cI cZ cM cS : ClassId) (so sca sna sla sra : Nat) (sn : Int32) (sl : Int32) (sfin : Int32) (swk : Int32) (snear : (Nat → Int32)) (p1 : Int32) (p2 : Int32) {snear' : (Nat → Int32)} (hF : fX6_flipEdge p1 p2 sn sl sfin swk snear = some snear') : zCW l yX6_flipEdge wsX6_flipEdge (zRm 1 21) D (zTy cI cZ cM cS) [.ref so, .int p1, .int p2] (wX6_flipEdge cI cZ cM cS so sca sna sla sra sn sl sfin swk snear) (wX6_flipEdge cI cZ cM cS so sca sna sla sra sn sl sfin swk snear') none := by
  unfold fX6_flipEdge at hF
  refine zCW_ofv (cc := cX6_flipEdge) (maxL := 3) (own := RX6) (by decide) rfl rfl (Nat.le_of_ble_eq_true rfl) (fun p e s m args below meth c Q ls A E hA hK hP hD hRet hS hl => ?_)
  refine zgen (fun H locs hP hS => ?_) hP hS
  have hl : lv_has ls 3 [(0, .ref so), (1, .int p1), (2, .int p2)] := hl
  obtain ⟨hx, hb, hml, hown, hts⟩ := id E
  have inX6 : ∀ w ∈ u_ws RX6 TX6 8, w ∈ wsX6_flipEdge := by decide +kernel
  have fl15 := hts (.fieldLink RX6 15 "SplitClasses$State" "nearSets" "[I") (by decide +kernel)
  refine lv_aload_n (pc := 0) hx hb dX6_flipEdge_0 rfl (lv_at hl 0 rfl) ?_
  refine lv_iload_n (pc := 1) hx hb dX6_flipEdge_1 rfl (lv_at hl 1 rfl) ?_
  obtain ⟨r_1, hC1, hF⟩ := ob1_e hF
  refine zVr (pc := 2) (As := [.int p1]) (rest := []) E (tX6_hasItem l D cI cZ cM cS so sca sna sla sra sn sl sfin swk p1 hC1) 1 gX6_flipEdge_X6_hasItem rfl rfl rfl (by decide +kernel) ⟨Nat.le_of_ble_eq_true rfl, Nat.le_of_ble_eq_true rfl⟩ hK hP [0] rfl 0 6 rfl rfl rfl rfl hl.1 rfl (Nat.le_of_ble_eq_true rfl) dX6_flipEdge_2 ⟨Nat.zero_le _, Nat.zero_le _⟩ ?_
  refine lv_if_eq (pc := 5) (tgt := 45) hx hb dX6_flipEdge_5 (by decide) (fun hc => ?_) (fun hc => ?_)
  · have hF := oif_t hF hc
    cases hF
    exact hRet _ _ _ _ dX6_flipEdge_45 hP hD hS
  · have hF := oif_f hF hc
    refine lv_aload_n (pc := 8) hx hb dX6_flipEdge_8 rfl (lv_at hl 0 rfl) ?_
    refine lv_iload_n (pc := 9) hx hb dX6_flipEdge_9 rfl (lv_at hl 2 rfl) ?_
    obtain ⟨r_2, hC2, hF⟩ := ob1_e hF
    refine zVr (pc := 10) (As := [.int p2]) (rest := []) E (tX6_hasItem l D cI cZ cM cS so sca sna sla sra sn sl sfin swk p2 hC2) 1 gX6_flipEdge_X6_hasItem rfl rfl rfl (by decide +kernel) ⟨Nat.le_of_ble_eq_true rfl, Nat.le_of_ble_eq_true rfl⟩ hK hP [0] rfl 0 6 rfl rfl rfl rfl hl.1 rfl (Nat.le_of_ble_eq_true rfl) dX6_flipEdge_10 ⟨Nat.zero_le _, Nat.zero_le _⟩ ?_
    refine lv_if_eq (pc := 13) (tgt := 45) hx hb dX6_flipEdge_13 (by decide) (fun hc => ?_) (fun hc => ?_)
    · have hF := oif_t hF hc
      cases hF
      exact hRet _ _ _ _ dX6_flipEdge_45 hP hD hS
    · have hF := oif_f hF hc
      refine lv_iload_n (pc := 16) hx hb dX6_flipEdge_16 rfl (lv_at hl 1 rfl) ?_
      refine lv_iload_n (pc := 17) hx hb dX6_flipEdge_17 rfl (lv_at hl 2 rfl) ?_
      refine lv_icmp_eq (pc := 18) (tgt := 45) hx hb dX6_flipEdge_18 (by decide) (fun hc => ?_) (fun hc => ?_)
      · have hF := oif_t hF hc
        cases hF
        exact hRet _ _ _ _ dX6_flipEdge_45 hP hD hS
      · have hF := oif_f hF hc
        refine lv_aload_n (pc := 21) hx hb dX6_flipEdge_21 rfl (lv_at hl 0 rfl) ?_
        refine va_get (pc := 22) (ci := 6) (C := RX6) (T := TX6) (N := 8) hx hb hts inX6 hown hK hP 0 rfl rfl 5 (by decide) fl15 (fun _ h9 => h9) rfl dX6_flipEdge_22 ?_
        refine lv_iload_n (pc := 25) hx hb dX6_flipEdge_25 rfl (lv_at hl 1 rfl) ?_
        refine lv_dup2_11 (pc := 26) hx hb dX6_flipEdge_26 rfl rfl ?_
        obtain ⟨hg3, hF⟩ := ogd_e hF
        refine va_iald (pc := 27) hx hb hK hP 1 0 rfl rfl hg3 dX6_flipEdge_27 ?_
        refine lv_iconst (v := (1 : Int32)) (pc := 28) hx hb dX6_flipEdge_28 (by decide) ?_
        refine lv_iload_n (pc := 29) hx hb dX6_flipEdge_29 rfl (lv_at hl 2 rfl) ?_
        refine lv_ishl (pc := 30) hx hb dX6_flipEdge_30 ?_
        refine lv_ixor (pc := 31) hx hb dX6_flipEdge_31 ?_
        obtain ⟨hg4, hF⟩ := ogd_e hF
        refine va_iast (pc := 32) hx hb hK hP hD hS 1 0 rfl rfl hg4 dX6_flipEdge_32 (fun H locs hP hD hS => ?_)
        have hP : va_P D vwCl (wX6_flipEdge cI cZ cM cS so sca sna sla sra sn sl sfin swk (upd snear (Int32.toNatClampNeg p1) ((snear (Int32.toNatClampNeg p1)) ^^^ ((1 : Int32) <<< (p2 &&& 31))))) H := hP
        have hD : va_D A (wX6_flipEdge cI cZ cM cS so sca sna sla sra sn sl sfin swk (upd snear (Int32.toNatClampNeg p1) ((snear (Int32.toNatClampNeg p1)) ^^^ ((1 : Int32) <<< (p2 &&& 31))))) := hD
        refine lv_aload_n (pc := 33) hx hb dX6_flipEdge_33 rfl (lv_at hl 0 rfl) ?_
        refine va_get (pc := 34) (ci := 6) (C := RX6) (T := TX6) (N := 8) hx hb hts inX6 hown hK hP 0 rfl rfl 5 (by decide) fl15 (fun _ h9 => h9) rfl dX6_flipEdge_34 ?_
        refine lv_iload_n (pc := 37) hx hb dX6_flipEdge_37 rfl (lv_at hl 2 rfl) ?_
        refine lv_dup2_11 (pc := 38) hx hb dX6_flipEdge_38 rfl rfl ?_
        obtain ⟨hg5, hF⟩ := ogd_e hF
        refine va_iald (pc := 39) hx hb hK hP 1 0 rfl rfl hg5 dX6_flipEdge_39 ?_
        refine lv_iconst (v := (1 : Int32)) (pc := 40) hx hb dX6_flipEdge_40 (by decide) ?_
        refine lv_iload_n (pc := 41) hx hb dX6_flipEdge_41 rfl (lv_at hl 1 rfl) ?_
        refine lv_ishl (pc := 42) hx hb dX6_flipEdge_42 ?_
        refine lv_ixor (pc := 43) hx hb dX6_flipEdge_43 ?_
        obtain ⟨hg6, hF⟩ := ogd_e hF
        refine va_iast (pc := 44) hx hb hK hP hD hS 1 0 rfl rfl hg6 dX6_flipEdge_44 (fun H locs hP hD hS => ?_)
        have hP : va_P D vwCl (wX6_flipEdge cI cZ cM cS so sca sna sla sra sn sl sfin swk (upd (upd snear (Int32.toNatClampNeg p1) ((snear (Int32.toNatClampNeg p1)) ^^^ ((1 : Int32) <<< (p2 &&& 31)))) (Int32.toNatClampNeg p2) (((upd snear (Int32.toNatClampNeg p1) ((snear (Int32.toNatClampNeg p1)) ^^^ ((1 : Int32) <<< (p2 &&& 31)))) (Int32.toNatClampNeg p2)) ^^^ ((1 : Int32) <<< (p1 &&& 31))))) H := hP
        have hD : va_D A (wX6_flipEdge cI cZ cM cS so sca sna sla sra sn sl sfin swk (upd (upd snear (Int32.toNatClampNeg p1) ((snear (Int32.toNatClampNeg p1)) ^^^ ((1 : Int32) <<< (p2 &&& 31)))) (Int32.toNatClampNeg p2) (((upd snear (Int32.toNatClampNeg p1) ((snear (Int32.toNatClampNeg p1)) ^^^ ((1 : Int32) <<< (p2 &&& 31)))) (Int32.toNatClampNeg p2)) ^^^ ((1 : Int32) <<< (p1 &&& 31))))) := hD
        cases hF
        exact hRet _ _ _ _ dX6_flipEdge_45 hP hD hS
def fX6_edgeCount_b4 (sn : Int32) (snear : (Nat → Int32)) (x2_2 : Int32) (x1_2 : Int32) : Option ((Int32 × Int32) ⊕ (Int32)) := (if sn ≤ x2_2 then (some (.inr x1_2)) else (ogd x2_2 12 (ob1 (fJ6_bitCount_0f7a4 (snear (Int32.toNatClampNeg x2_2))) (fun r_2 => (some (.inl ((x2_2 + (1 : Int32)), (x1_2 + r_2))))))))
def fX6_edgeCount_s4 (sn : Int32) (snear : (Nat → Int32)) (sg_ : Int32 × Int32) : Option ((Int32 × Int32) ⊕ (Int32)) := fX6_edgeCount_b4 sn snear sg_.1 sg_.2
def fX6_edgeCount (sn : Int32) (sl : Int32) (sfin : Int32) (swk : Int32) (snear : (Nat → Int32)) : Option (Int32) := (ob1 (olp (fX6_edgeCount_s4 sn snear) oFu ((0 : Int32), (0 : Int32))) (fun x1_3 => (some (x1_3 / (2 : Int32)))))
abbrev wX6_edgeCount (cI cZ cM cS : ClassId) (so sca sna sla sra : Nat) (sn : Int32) (sl : Int32) (sfin : Int32) (swk : Int32) (snear : (Nat → Int32)) : va_W := [(so, .inr (6, [.int sn, .int sl, .int sfin, .int swk, .ref sca, .ref sna, .ref sla, .ref sra])), (sna, .inl (cI, 12, .inl snear))]
set_option maxHeartbeats 4000000 in
set_option maxRecDepth 100000 in
theorem tX6_edgeCount (l : Launch) (D : va_G) (cI cZ cM cS : ClassId) (so sca sna sla sra : Nat) (sn : Int32) (sl : Int32) (sfin : Int32) (swk : Int32) (snear : (Nat → Int32)) {r : Int32} (hF : fX6_edgeCount sn sl sfin swk snear = some r) : zCR l yX6_edgeCount wsX6_edgeCount (zRm 1 20) D (zTy cI cZ cM cS) [.ref so] (wX6_edgeCount cI cZ cM cS so sca sna sla sra sn sl sfin swk snear) r := by
  unfold fX6_edgeCount at hF
  refine zCR_of (cc := cX6_edgeCount) (maxL := 3) (own := RX6) (by decide +kernel) rfl rfl (Nat.le_of_ble_eq_true rfl) (fun p e s m args below meth c Q ls E hK hP hRet hl => ?_)
  have hl : lv_has ls 3 [(0, .ref so)] := hl
  obtain ⟨hx, hb, hml, hown, hts⟩ := id E
  have inX6 : ∀ w ∈ u_ws RX6 TX6 8, w ∈ wsX6_edgeCount := by decide +kernel
  have fl15 := hts (.fieldLink RX6 15 "SplitClasses$State" "nearSets" "[I") (by decide +kernel)
  have fl32 := hts (.fieldLink RX6 32 "SplitClasses$State" "n" "I") (by decide +kernel)
  refine lv_iconst (v := (0 : Int32)) (pc := 0) hx hb dX6_edgeCount_0 (by decide) ?_
  refine lv_istore_n (lv' := [(1, .int (0 : Int32)), (0, .ref so)]) (pc := 1) hx hb dX6_edgeCount_1 rfl hl (by decide) rfl (fun ls hl => ?_)
  refine lv_iconst (v := (0 : Int32)) (pc := 2) hx hb dX6_edgeCount_2 (by decide) ?_
  refine lv_istore_n (lv' := [(2, .int (0 : Int32)), (1, .int (0 : Int32)), (0, .ref so)]) (pc := 3) hx hb dX6_edgeCount_3 rfl hl (by decide) rfl (fun ls hl => ?_)
  obtain ⟨x1_3, hL3, hF⟩ := ob1_e hF
  have ex3 : ∀ (ls : Array Slot), lv_has ls 3 [(1, .int x1_3)] → W p l e (zRm 1 20) s m args below meth c s.heap [] 0 0 Q (F0 m 30 ls []) := by
    intro ls hl
    refine lv_iload_n (pc := 30) hx hb dX6_edgeCount_30 rfl (lv_at hl 0 rfl) ?_
    refine lv_iconst (v := (2 : Int32)) (pc := 31) hx hb dX6_edgeCount_31 (by decide) ?_
    refine lv_idiv (pc := 32) hx hb dX6_edgeCount_32 (by decide) ?_
    cases hF
    exact hRet _ _ rfl dX6_edgeCount_33
  have lp3 : ∀ (n : Nat) (x2_2 : Int32) (x1_2 : Int32) (ls : Array Slot), olp (fX6_edgeCount_s4 sn snear) n (x2_2, x1_2) = some x1_3 → lv_has ls 3 [(2, .int x2_2), (1, .int x1_2), (0, .ref so)] → W p l e (zRm 1 20) s m args below meth c s.heap [] 0 0 Q (F0 m 4 ls []) := by
    intro n
    induction n with
    | zero => intro x2_2 x1_2 ls hL; exact olp_0 hL
    | succ n ih =>
      intro x2_2 x1_2 ls hL3 hl
      obtain ⟨z, hz3, hL3⟩ := olp_e hL3
      have hz3 : fX6_edgeCount_b4 sn snear x2_2 x1_2 = some z := hz3
      unfold fX6_edgeCount_b4 at hz3
      refine lv_iload_n (pc := 4) hx hb dX6_edgeCount_4 rfl (lv_at hl 0 rfl) ?_
      refine lv_aload_n (pc := 5) hx hb dX6_edgeCount_5 rfl (lv_at hl 2 rfl) ?_
      refine va_get (pc := 6) (ci := 6) (C := RX6) (T := TX6) (N := 8) hx hb hts inX6 hown hK hP 0 rfl rfl 0 (by decide) fl32 (fun _ h9 => h9) rfl dX6_edgeCount_6 ?_
      refine lv_icmp_ge (pc := 9) (tgt := 30) hx hb dX6_edgeCount_9 (by decide) (fun hc => ?_) (fun hc => ?_)
      · have hz3 := oif_t hz3 hc
        have hE := olp_r hz3 hL3
        cases hE
        exact ex3 _ (lv_sub hl [1] rfl)
      · have hz3 := oif_f hz3 hc
        refine lv_iload_n (pc := 12) hx hb dX6_edgeCount_12 rfl (lv_at hl 1 rfl) ?_
        refine lv_aload_n (pc := 13) hx hb dX6_edgeCount_13 rfl (lv_at hl 2 rfl) ?_
        refine va_get (pc := 14) (ci := 6) (C := RX6) (T := TX6) (N := 8) hx hb hts inX6 hown hK hP 0 rfl rfl 5 (by decide) fl15 (fun _ h9 => h9) rfl dX6_edgeCount_14 ?_
        refine lv_iload_n (pc := 17) hx hb dX6_edgeCount_17 rfl (lv_at hl 0 rfl) ?_
        obtain ⟨hg4, hz3⟩ := ogd_e hz3
        refine va_iald (pc := 18) hx hb hK hP 1 0 rfl rfl hg4 dX6_edgeCount_18 ?_
        obtain ⟨r_2, hC5, hz3⟩ := ob1_e hz3
        refine zSr (pc := 19) (As := [.int (snear (Int32.toNatClampNeg x2_2))]) (rest := [.int x1_2]) E (tJ6_bitCount_0f7a4 l D cI cZ cM cS (snear (Int32.toNatClampNeg x2_2)) hC5) 1 gX6_edgeCount_J6_bitCount_0f7a4 rfl rfl rfl (by decide +kernel) ⟨Nat.le_of_ble_eq_true rfl, Nat.le_of_ble_eq_true rfl⟩ hK hP [] rfl rfl hl.1 rfl (Nat.le_of_ble_eq_true rfl) dX6_edgeCount_19 ⟨Nat.zero_le _, Nat.zero_le _⟩ ?_
        refine lv_iadd (pc := 22) hx hb dX6_edgeCount_22 ?_
        refine lv_istore_n (lv' := [(1, .int (x1_2 + r_2)), (2, .int x2_2), (0, .ref so)]) (pc := 23) hx hb dX6_edgeCount_23 rfl hl (by decide) rfl (fun ls hl => ?_)
        refine lv_iinc (v := (x2_2 + (1 : Int32))) (lv' := [(2, .int (x2_2 + (1 : Int32))), (1, .int (x1_2 + r_2)), (0, .ref so)]) (pc := 24) hx hb dX6_edgeCount_24 hl (k := 1) rfl rfl (by decide) rfl (fun ls hl => ?_)
        refine lv_goto (pc := 27) (tgt := 4) hx hb dX6_edgeCount_27 (by decide) ?_
        exact ih _ _ _ (olp_l hz3 hL3) (lv_sub hl [0, 1, 2] rfl)
  exact lp3 oFu _ _ _ hL3 (lv_sub hl [0, 1, 2] rfl)
def fX6_itemsWithColumn_b4 (sn : Int32) (scols : (Nat → Int32)) (p1 : Int32) (x3_2 : Int32) (x2_3 : Int32) : Option ((Int32 × Int32) ⊕ (Int32)) := (if sn ≤ x3_2 then (some (.inr x2_3)) else (ogd x3_2 12 (onm (x2_3 ||| ((((scols (Int32.toNatClampNeg x3_2)) >>> (p1 &&& 31)) &&& (1 : Int32)) <<< (x3_2 &&& 31))) (fun x2_5 => (some (.inl ((x3_2 + (1 : Int32)), x2_5)))))))
def fX6_itemsWithColumn_s4 (sn : Int32) (scols : (Nat → Int32)) (p1 : Int32) (sg_ : Int32 × Int32) : Option ((Int32 × Int32) ⊕ (Int32)) := fX6_itemsWithColumn_b4 sn scols p1 sg_.1 sg_.2
def fX6_itemsWithColumn (p1 : Int32) (sn : Int32) (sl : Int32) (sfin : Int32) (swk : Int32) (scols : (Nat → Int32)) : Option (Int32) := (ob1 (olp (fX6_itemsWithColumn_s4 sn scols p1) oFu ((0 : Int32), (0 : Int32))) (fun x2_4 => (some x2_4)))
abbrev wX6_itemsWithColumn (cI cZ cM cS : ClassId) (so sca sna sla sra : Nat) (sn : Int32) (sl : Int32) (sfin : Int32) (swk : Int32) (scols : (Nat → Int32)) : va_W := [(so, .inr (6, [.int sn, .int sl, .int sfin, .int swk, .ref sca, .ref sna, .ref sla, .ref sra])), (sca, .inl (cI, 12, .inl scols))]
set_option maxHeartbeats 4000000 in
set_option maxRecDepth 100000 in
theorem tX6_itemsWithColumn (l : Launch) (D : va_G) (cI cZ cM cS : ClassId) (so sca sna sla sra : Nat) (sn : Int32) (sl : Int32) (sfin : Int32) (swk : Int32) (scols : (Nat → Int32)) (p1 : Int32) {r : Int32} (hF : fX6_itemsWithColumn p1 sn sl sfin swk scols = some r) : zCR l yX6_itemsWithColumn wsX6_itemsWithColumn (zRm 0 0) D (zTy cI cZ cM cS) [.ref so, .int p1] (wX6_itemsWithColumn cI cZ cM cS so sca sna sla sra sn sl sfin swk scols) r := by
  unfold fX6_itemsWithColumn at hF
  refine zCR_of (cc := cX6_itemsWithColumn) (maxL := 4) (own := RX6) (by decide +kernel) rfl rfl (Nat.le_of_ble_eq_true rfl) (fun p e s m args below meth c Q ls E hK hP hRet hl => ?_)
  have hl : lv_has ls 4 [(0, .ref so), (1, .int p1)] := hl
  obtain ⟨hx, hb, hml, hown, hts⟩ := id E
  have inX6 : ∀ w ∈ u_ws RX6 TX6 8, w ∈ wsX6_itemsWithColumn := by decide +kernel
  have fl32 := hts (.fieldLink RX6 32 "SplitClasses$State" "n" "I") (by decide +kernel)
  have fl9 := hts (.fieldLink RX6 9 "SplitClasses$State" "columnSets" "[I") (by decide +kernel)
  refine lv_iconst (v := (0 : Int32)) (pc := 0) hx hb dX6_itemsWithColumn_0 (by decide) ?_
  refine lv_istore_n (lv' := [(2, .int (0 : Int32)), (0, .ref so), (1, .int p1)]) (pc := 1) hx hb dX6_itemsWithColumn_1 rfl hl (by decide) rfl (fun ls hl => ?_)
  refine lv_iconst (v := (0 : Int32)) (pc := 2) hx hb dX6_itemsWithColumn_2 (by decide) ?_
  refine lv_istore_n (lv' := [(3, .int (0 : Int32)), (2, .int (0 : Int32)), (0, .ref so), (1, .int p1)]) (pc := 3) hx hb dX6_itemsWithColumn_3 rfl hl (by decide) rfl (fun ls hl => ?_)
  obtain ⟨x2_4, hL2, hF⟩ := ob1_e hF
  have ex2 : ∀ (ls : Array Slot), lv_has ls 4 [(2, .int x2_4)] → W p l e (zRm 0 0) s m args below meth c s.heap [] 0 0 Q (F0 m 33 ls []) := by
    intro ls hl
    refine lv_iload_n (pc := 33) hx hb dX6_itemsWithColumn_33 rfl (lv_at hl 0 rfl) ?_
    cases hF
    exact hRet _ _ rfl dX6_itemsWithColumn_34
  have lp2 : ∀ (n : Nat) (x3_2 : Int32) (x2_3 : Int32) (ls : Array Slot), olp (fX6_itemsWithColumn_s4 sn scols p1) n (x3_2, x2_3) = some x2_4 → lv_has ls 4 [(3, .int x3_2), (2, .int x2_3), (0, .ref so), (1, .int p1)] → W p l e (zRm 0 0) s m args below meth c s.heap [] 0 0 Q (F0 m 4 ls []) := by
    intro n
    induction n with
    | zero => intro x3_2 x2_3 ls hL; exact olp_0 hL
    | succ n ih =>
      intro x3_2 x2_3 ls hL2 hl
      obtain ⟨z, hz2, hL2⟩ := olp_e hL2
      have hz2 : fX6_itemsWithColumn_b4 sn scols p1 x3_2 x2_3 = some z := hz2
      unfold fX6_itemsWithColumn_b4 at hz2
      refine lv_iload_n (pc := 4) hx hb dX6_itemsWithColumn_4 rfl (lv_at hl 0 rfl) ?_
      refine lv_aload_n (pc := 5) hx hb dX6_itemsWithColumn_5 rfl (lv_at hl 2 rfl) ?_
      refine va_get (pc := 6) (ci := 6) (C := RX6) (T := TX6) (N := 8) hx hb hts inX6 hown hK hP 0 rfl rfl 0 (by decide) fl32 (fun _ h9 => h9) rfl dX6_itemsWithColumn_6 ?_
      refine lv_icmp_ge (pc := 9) (tgt := 33) hx hb dX6_itemsWithColumn_9 (by decide) (fun hc => ?_) (fun hc => ?_)
      · have hz2 := oif_t hz2 hc
        have hE := olp_r hz2 hL2
        cases hE
        exact ex2 _ (lv_sub hl [1] rfl)
      · have hz2 := oif_f hz2 hc
        refine lv_iload_n (pc := 12) hx hb dX6_itemsWithColumn_12 rfl (lv_at hl 1 rfl) ?_
        refine lv_aload_n (pc := 13) hx hb dX6_itemsWithColumn_13 rfl (lv_at hl 2 rfl) ?_
        refine va_get (pc := 14) (ci := 6) (C := RX6) (T := TX6) (N := 8) hx hb hts inX6 hown hK hP 0 rfl rfl 4 (by decide) fl9 (fun _ h9 => h9) rfl dX6_itemsWithColumn_14 ?_
        refine lv_iload_n (pc := 17) hx hb dX6_itemsWithColumn_17 rfl (lv_at hl 0 rfl) ?_
        obtain ⟨hg3, hz2⟩ := ogd_e hz2
        refine va_iald (pc := 18) hx hb hK hP 1 0 rfl rfl hg3 dX6_itemsWithColumn_18 ?_
        refine lv_iload_n (pc := 19) hx hb dX6_itemsWithColumn_19 rfl (lv_at hl 3 rfl) ?_
        refine lv_ishr (pc := 20) hx hb dX6_itemsWithColumn_20 ?_
        refine lv_iconst (v := (1 : Int32)) (pc := 21) hx hb dX6_itemsWithColumn_21 (by decide) ?_
        refine lv_iand (pc := 22) hx hb dX6_itemsWithColumn_22 ?_
        refine lv_iload_n (pc := 23) hx hb dX6_itemsWithColumn_23 rfl (lv_at hl 0 rfl) ?_
        refine lv_ishl (pc := 24) hx hb dX6_itemsWithColumn_24 ?_
        refine lv_ior (pc := 25) hx hb dX6_itemsWithColumn_25 ?_
        refine lv_topi (fun x2_5 ex2_5 => ?_)
        have hz2 := onm_e hz2 x2_5 ex2_5
        refine lv_istore_n (lv' := [(2, .int x2_5), (3, .int x3_2), (0, .ref so), (1, .int p1)]) (pc := 26) hx hb dX6_itemsWithColumn_26 rfl hl (by decide) rfl (fun ls hl => ?_)
        refine lv_iinc (v := (x3_2 + (1 : Int32))) (lv' := [(3, .int (x3_2 + (1 : Int32))), (2, .int x2_5), (0, .ref so), (1, .int p1)]) (pc := 27) hx hb dX6_itemsWithColumn_27 hl (k := 1) rfl rfl (by decide) rfl (fun ls hl => ?_)
        refine lv_goto (pc := 30) (tgt := 4) hx hb dX6_itemsWithColumn_30 (by decide) ?_
        exact ih _ _ _ (olp_l hz2 hL2) (lv_sub hl [0, 1, 2, 3] rfl)
  exact lp2 oFu _ _ _ hL2 (lv_sub hl [0, 1, 2, 3] rfl)
def fX6_itemsThatGoInto_b5 (sn : Int32) (p1 : Int32) (sl : Int32) (sfin : Int32) (swk : Int32) (slds : (Nat → Int32)) (p2 : Int32) (x4_2 : Int32) (x3_3 : Int32) : Option ((Int32 × Int32) ⊕ (Int32)) := (if sn ≤ x4_2 then (some (.inr x3_3)) else (ob1 (fX6_leadsTo x4_2 p1 sn sl sfin swk slds) (fun r_2 => (onm (x3_3 ||| (((p2 >>> (r_2 &&& 31)) &&& (1 : Int32)) <<< (x4_2 &&& 31))) (fun x3_5 => (some (.inl ((x4_2 + (1 : Int32)), x3_5))))))))
def fX6_itemsThatGoInto_s5 (sn : Int32) (p1 : Int32) (sl : Int32) (sfin : Int32) (swk : Int32) (slds : (Nat → Int32)) (p2 : Int32) (sg_ : Int32 × Int32) : Option ((Int32 × Int32) ⊕ (Int32)) := fX6_itemsThatGoInto_b5 sn p1 sl sfin swk slds p2 sg_.1 sg_.2
def fX6_itemsThatGoInto (p1 : Int32) (p2 : Int32) (sn : Int32) (sl : Int32) (sfin : Int32) (swk : Int32) (slds : (Nat → Int32)) : Option (Int32) := (ob1 (olp (fX6_itemsThatGoInto_s5 sn p1 sl sfin swk slds p2) oFu ((0 : Int32), (0 : Int32))) (fun x3_4 => (some x3_4)))
abbrev wX6_itemsThatGoInto (cI cZ cM cS : ClassId) (so sca sna sla sra : Nat) (sn : Int32) (sl : Int32) (sfin : Int32) (swk : Int32) (slds : (Nat → Int32)) : va_W := [(so, .inr (6, [.int sn, .int sl, .int sfin, .int swk, .ref sca, .ref sna, .ref sla, .ref sra])), (sla, .inl (cI, 36, .inl slds))]
set_option maxHeartbeats 4000000 in
set_option maxRecDepth 100000 in
theorem tX6_itemsThatGoInto (l : Launch) (D : va_G) (cI cZ cM cS : ClassId) (so sca sna sla sra : Nat) (sn : Int32) (sl : Int32) (sfin : Int32) (swk : Int32) (slds : (Nat → Int32)) (p1 : Int32) (p2 : Int32) {r : Int32} (hF : fX6_itemsThatGoInto p1 p2 sn sl sfin swk slds = some r) : zCR l yX6_itemsThatGoInto wsX6_itemsThatGoInto (zRm 2 43) D (zTy cI cZ cM cS) [.ref so, .int p1, .int p2] (wX6_itemsThatGoInto cI cZ cM cS so sca sna sla sra sn sl sfin swk slds) r := by
  unfold fX6_itemsThatGoInto at hF
  refine zCR_of (cc := cX6_itemsThatGoInto) (maxL := 5) (own := RX6) (by decide +kernel) rfl rfl (Nat.le_of_ble_eq_true rfl) (fun p e s m args below meth c Q ls E hK hP hRet hl => ?_)
  have hl : lv_has ls 5 [(0, .ref so), (1, .int p1), (2, .int p2)] := hl
  obtain ⟨hx, hb, hml, hown, hts⟩ := id E
  have inX6 : ∀ w ∈ u_ws RX6 TX6 8, w ∈ wsX6_itemsThatGoInto := by decide +kernel
  have fl32 := hts (.fieldLink RX6 32 "SplitClasses$State" "n" "I") (by decide +kernel)
  refine lv_iconst (v := (0 : Int32)) (pc := 0) hx hb dX6_itemsThatGoInto_0 (by decide) ?_
  refine lv_istore_n (lv' := [(3, .int (0 : Int32)), (0, .ref so), (1, .int p1), (2, .int p2)]) (pc := 1) hx hb dX6_itemsThatGoInto_1 rfl hl (by decide) rfl (fun ls hl => ?_)
  refine lv_iconst (v := (0 : Int32)) (pc := 2) hx hb dX6_itemsThatGoInto_2 (by decide) ?_
  refine lv_istore (lv' := [(4, .int (0 : Int32)), (3, .int (0 : Int32)), (0, .ref so), (1, .int p1), (2, .int p2)]) (pc := 3) hx hb dX6_itemsThatGoInto_3 hl (by decide) rfl (fun ls hl => ?_)
  obtain ⟨x3_4, hL2, hF⟩ := ob1_e hF
  have ex2 : ∀ (ls : Array Slot), lv_has ls 5 [(3, .int x3_4)] → W p l e (zRm 2 43) s m args below meth c s.heap [] 0 0 Q (F0 m 37 ls []) := by
    intro ls hl
    refine lv_iload_n (pc := 37) hx hb dX6_itemsThatGoInto_37 rfl (lv_at hl 0 rfl) ?_
    cases hF
    exact hRet _ _ rfl dX6_itemsThatGoInto_38
  have lp2 : ∀ (n : Nat) (x4_2 : Int32) (x3_3 : Int32) (ls : Array Slot), olp (fX6_itemsThatGoInto_s5 sn p1 sl sfin swk slds p2) n (x4_2, x3_3) = some x3_4 → lv_has ls 5 [(4, .int x4_2), (3, .int x3_3), (0, .ref so), (1, .int p1), (2, .int p2)] → W p l e (zRm 2 43) s m args below meth c s.heap [] 0 0 Q (F0 m 5 ls []) := by
    intro n
    induction n with
    | zero => intro x4_2 x3_3 ls hL; exact olp_0 hL
    | succ n ih =>
      intro x4_2 x3_3 ls hL2 hl
      obtain ⟨z, hz2, hL2⟩ := olp_e hL2
      have hz2 : fX6_itemsThatGoInto_b5 sn p1 sl sfin swk slds p2 x4_2 x3_3 = some z := hz2
      unfold fX6_itemsThatGoInto_b5 at hz2
      refine lv_iload (pc := 5) hx hb dX6_itemsThatGoInto_5 (lv_at hl 0 rfl) ?_
      refine lv_aload_n (pc := 7) hx hb dX6_itemsThatGoInto_7 rfl (lv_at hl 2 rfl) ?_
      refine va_get (pc := 8) (ci := 6) (C := RX6) (T := TX6) (N := 8) hx hb hts inX6 hown hK hP 0 rfl rfl 0 (by decide) fl32 (fun _ h9 => h9) rfl dX6_itemsThatGoInto_8 ?_
      refine lv_icmp_ge (pc := 11) (tgt := 37) hx hb dX6_itemsThatGoInto_11 (by decide) (fun hc => ?_) (fun hc => ?_)
      · have hz2 := oif_t hz2 hc
        have hE := olp_r hz2 hL2
        cases hE
        exact ex2 _ (lv_sub hl [1] rfl)
      · have hz2 := oif_f hz2 hc
        refine lv_iload_n (pc := 14) hx hb dX6_itemsThatGoInto_14 rfl (lv_at hl 1 rfl) ?_
        refine lv_iload_n (pc := 15) hx hb dX6_itemsThatGoInto_15 rfl (lv_at hl 4 rfl) ?_
        refine lv_aload_n (pc := 16) hx hb dX6_itemsThatGoInto_16 rfl (lv_at hl 2 rfl) ?_
        refine lv_iload (pc := 17) hx hb dX6_itemsThatGoInto_17 (lv_at hl 0 rfl) ?_
        refine lv_iload_n (pc := 19) hx hb dX6_itemsThatGoInto_19 rfl (lv_at hl 3 rfl) ?_
        obtain ⟨r_2, hC3, hz2⟩ := ob1_e hz2
        refine zVr (pc := 20) (As := [.int x4_2, .int p1]) (rest := [.int p2, .int x3_3]) E (tX6_leadsTo l D cI cZ cM cS so sca sna sla sra sn sl sfin swk slds x4_2 p1 hC3) 2 gX6_itemsThatGoInto_X6_leadsTo rfl rfl rfl (by decide +kernel) ⟨Nat.le_of_ble_eq_true rfl, Nat.le_of_ble_eq_true rfl⟩ hK hP [0, 1] rfl 0 6 rfl rfl rfl rfl hl.1 rfl (Nat.le_of_ble_eq_true rfl) dX6_itemsThatGoInto_20 ⟨Nat.zero_le _, Nat.zero_le _⟩ ?_
        refine lv_ishr (pc := 23) hx hb dX6_itemsThatGoInto_23 ?_
        refine lv_iconst (v := (1 : Int32)) (pc := 24) hx hb dX6_itemsThatGoInto_24 (by decide) ?_
        refine lv_iand (pc := 25) hx hb dX6_itemsThatGoInto_25 ?_
        refine lv_iload (pc := 26) hx hb dX6_itemsThatGoInto_26 (lv_at hl 0 rfl) ?_
        refine lv_ishl (pc := 28) hx hb dX6_itemsThatGoInto_28 ?_
        refine lv_ior (pc := 29) hx hb dX6_itemsThatGoInto_29 ?_
        refine lv_topi (fun x3_5 ex3_5 => ?_)
        have hz2 := onm_e hz2 x3_5 ex3_5
        refine lv_istore_n (lv' := [(3, .int x3_5), (4, .int x4_2), (0, .ref so), (1, .int p1), (2, .int p2)]) (pc := 30) hx hb dX6_itemsThatGoInto_30 rfl hl (by decide) rfl (fun ls hl => ?_)
        refine lv_iinc (v := (x4_2 + (1 : Int32))) (lv' := [(4, .int (x4_2 + (1 : Int32))), (3, .int x3_5), (0, .ref so), (1, .int p1), (2, .int p2)]) (pc := 31) hx hb dX6_itemsThatGoInto_31 hl (k := 1) rfl rfl (by decide) rfl (fun ls hl => ?_)
        refine lv_goto (pc := 34) (tgt := 5) hx hb dX6_itemsThatGoInto_34 (by decide) ?_
        exact ih _ _ _ (olp_l hz2 hL2) (lv_sub hl [0, 1, 2, 3, 4] rfl)
  exact lp2 oFu _ _ _ hL2 (lv_sub hl [0, 1, 2, 3, 4] rfl)
def fX6_itemsWithNearIn_b5 (sn : Int32) (snear : (Nat → Int32)) (p1 : Int32) (p2 : Int32) (x4_2 : Int32) (x3_2 : Int32) : Option ((Int32 × Int32) ⊕ (Int32)) := (if sn ≤ x4_2 then (some (.inr x3_2)) else (ogd x4_2 12 (ob1 (fJ6_bitCount_0f7a4 ((snear (Int32.toNatClampNeg x4_2)) &&& p1)) (fun r_2 => (if r_2 < p2 then (some (.inl ((x4_2 + (1 : Int32)), x3_2))) else (some (.inl ((x4_2 + (1 : Int32)), (x3_2 ||| ((1 : Int32) <<< (x4_2 &&& 31)))))))))))
def fX6_itemsWithNearIn_s5 (sn : Int32) (snear : (Nat → Int32)) (p1 : Int32) (p2 : Int32) (sg_ : Int32 × Int32) : Option ((Int32 × Int32) ⊕ (Int32)) := fX6_itemsWithNearIn_b5 sn snear p1 p2 sg_.1 sg_.2
def fX6_itemsWithNearIn (p1 : Int32) (p2 : Int32) (sn : Int32) (sl : Int32) (sfin : Int32) (swk : Int32) (snear : (Nat → Int32)) : Option (Int32) := (ob1 (olp (fX6_itemsWithNearIn_s5 sn snear p1 p2) oFu ((0 : Int32), (0 : Int32))) (fun x3_3 => (some x3_3)))
abbrev wX6_itemsWithNearIn (cI cZ cM cS : ClassId) (so sca sna sla sra : Nat) (sn : Int32) (sl : Int32) (sfin : Int32) (swk : Int32) (snear : (Nat → Int32)) : va_W := [(so, .inr (6, [.int sn, .int sl, .int sfin, .int swk, .ref sca, .ref sna, .ref sla, .ref sra])), (sna, .inl (cI, 12, .inl snear))]
set_option maxHeartbeats 4000000 in
set_option maxRecDepth 100000 in
theorem tX6_itemsWithNearIn (l : Launch) (D : va_G) (cI cZ cM cS : ClassId) (so sca sna sla sra : Nat) (sn : Int32) (sl : Int32) (sfin : Int32) (swk : Int32) (snear : (Nat → Int32)) (p1 : Int32) (p2 : Int32) {r : Int32} (hF : fX6_itemsWithNearIn p1 p2 sn sl sfin swk snear = some r) : zCR l yX6_itemsWithNearIn wsX6_itemsWithNearIn (zRm 1 20) D (zTy cI cZ cM cS) [.ref so, .int p1, .int p2] (wX6_itemsWithNearIn cI cZ cM cS so sca sna sla sra sn sl sfin swk snear) r := by
  unfold fX6_itemsWithNearIn at hF
  refine zCR_of (cc := cX6_itemsWithNearIn) (maxL := 5) (own := RX6) (by decide +kernel) rfl rfl (Nat.le_of_ble_eq_true rfl) (fun p e s m args below meth c Q ls E hK hP hRet hl => ?_)
  have hl : lv_has ls 5 [(0, .ref so), (1, .int p1), (2, .int p2)] := hl
  obtain ⟨hx, hb, hml, hown, hts⟩ := id E
  have inX6 : ∀ w ∈ u_ws RX6 TX6 8, w ∈ wsX6_itemsWithNearIn := by decide +kernel
  have fl15 := hts (.fieldLink RX6 15 "SplitClasses$State" "nearSets" "[I") (by decide +kernel)
  have fl32 := hts (.fieldLink RX6 32 "SplitClasses$State" "n" "I") (by decide +kernel)
  refine lv_iconst (v := (0 : Int32)) (pc := 0) hx hb dX6_itemsWithNearIn_0 (by decide) ?_
  refine lv_istore_n (lv' := [(3, .int (0 : Int32)), (0, .ref so), (1, .int p1), (2, .int p2)]) (pc := 1) hx hb dX6_itemsWithNearIn_1 rfl hl (by decide) rfl (fun ls hl => ?_)
  refine lv_iconst (v := (0 : Int32)) (pc := 2) hx hb dX6_itemsWithNearIn_2 (by decide) ?_
  refine lv_istore (lv' := [(4, .int (0 : Int32)), (3, .int (0 : Int32)), (0, .ref so), (1, .int p1), (2, .int p2)]) (pc := 3) hx hb dX6_itemsWithNearIn_3 hl (by decide) rfl (fun ls hl => ?_)
  obtain ⟨x3_3, hL3, hF⟩ := ob1_e hF
  have ex3 : ∀ (ls : Array Slot), lv_has ls 5 [(3, .int x3_3)] → W p l e (zRm 1 20) s m args below meth c s.heap [] 0 0 Q (F0 m 43 ls []) := by
    intro ls hl
    refine lv_iload_n (pc := 43) hx hb dX6_itemsWithNearIn_43 rfl (lv_at hl 0 rfl) ?_
    cases hF
    exact hRet _ _ rfl dX6_itemsWithNearIn_44
  have lp3 : ∀ (n : Nat) (x4_2 : Int32) (x3_2 : Int32) (ls : Array Slot), olp (fX6_itemsWithNearIn_s5 sn snear p1 p2) n (x4_2, x3_2) = some x3_3 → lv_has ls 5 [(4, .int x4_2), (3, .int x3_2), (0, .ref so), (1, .int p1), (2, .int p2)] → W p l e (zRm 1 20) s m args below meth c s.heap [] 0 0 Q (F0 m 5 ls []) := by
    intro n
    induction n with
    | zero => intro x4_2 x3_2 ls hL; exact olp_0 hL
    | succ n ih =>
      intro x4_2 x3_2 ls hL3 hl
      obtain ⟨z, hz3, hL3⟩ := olp_e hL3
      have hz3 : fX6_itemsWithNearIn_b5 sn snear p1 p2 x4_2 x3_2 = some z := hz3
      unfold fX6_itemsWithNearIn_b5 at hz3
      refine lv_iload (pc := 5) hx hb dX6_itemsWithNearIn_5 (lv_at hl 0 rfl) ?_
      refine lv_aload_n (pc := 7) hx hb dX6_itemsWithNearIn_7 rfl (lv_at hl 2 rfl) ?_
      refine va_get (pc := 8) (ci := 6) (C := RX6) (T := TX6) (N := 8) hx hb hts inX6 hown hK hP 0 rfl rfl 0 (by decide) fl32 (fun _ h9 => h9) rfl dX6_itemsWithNearIn_8 ?_
      refine lv_icmp_ge (pc := 11) (tgt := 43) hx hb dX6_itemsWithNearIn_11 (by decide) (fun hc => ?_) (fun hc => ?_)
      · have hz3 := oif_t hz3 hc
        have hE := olp_r hz3 hL3
        cases hE
        exact ex3 _ (lv_sub hl [1] rfl)
      · have hz3 := oif_f hz3 hc
        refine lv_aload_n (pc := 14) hx hb dX6_itemsWithNearIn_14 rfl (lv_at hl 2 rfl) ?_
        refine va_get (pc := 15) (ci := 6) (C := RX6) (T := TX6) (N := 8) hx hb hts inX6 hown hK hP 0 rfl rfl 5 (by decide) fl15 (fun _ h9 => h9) rfl dX6_itemsWithNearIn_15 ?_
        refine lv_iload (pc := 18) hx hb dX6_itemsWithNearIn_18 (lv_at hl 0 rfl) ?_
        obtain ⟨hg4, hz3⟩ := ogd_e hz3
        refine va_iald (pc := 20) hx hb hK hP 1 0 rfl rfl hg4 dX6_itemsWithNearIn_20 ?_
        refine lv_iload_n (pc := 21) hx hb dX6_itemsWithNearIn_21 rfl (lv_at hl 3 rfl) ?_
        refine lv_iand (pc := 22) hx hb dX6_itemsWithNearIn_22 ?_
        obtain ⟨r_2, hC5, hz3⟩ := ob1_e hz3
        refine zSr (pc := 23) (As := [.int ((snear (Int32.toNatClampNeg x4_2)) &&& p1)]) (rest := []) E (tJ6_bitCount_0f7a4 l D cI cZ cM cS ((snear (Int32.toNatClampNeg x4_2)) &&& p1) hC5) 1 gX6_itemsWithNearIn_J6_bitCount_0f7a4 rfl rfl rfl (by decide +kernel) ⟨Nat.le_of_ble_eq_true rfl, Nat.le_of_ble_eq_true rfl⟩ hK hP [] rfl rfl hl.1 rfl (Nat.le_of_ble_eq_true rfl) dX6_itemsWithNearIn_23 ⟨Nat.zero_le _, Nat.zero_le _⟩ ?_
        refine lv_iload_n (pc := 26) hx hb dX6_itemsWithNearIn_26 rfl (lv_at hl 4 rfl) ?_
        refine lv_icmp_lt (pc := 27) (tgt := 37) hx hb dX6_itemsWithNearIn_27 (by decide) (fun hc => ?_) (fun hc => ?_)
        · have hz3 := oif_t hz3 hc
          refine lv_iinc (v := (x4_2 + (1 : Int32))) (lv' := [(4, .int (x4_2 + (1 : Int32))), (3, .int x3_2), (0, .ref so), (1, .int p1), (2, .int p2)]) (pc := 37) hx hb dX6_itemsWithNearIn_37 hl (k := 0) rfl rfl (by decide) rfl (fun ls hl => ?_)
          refine lv_goto (pc := 40) (tgt := 5) hx hb dX6_itemsWithNearIn_40 (by decide) ?_
          exact ih _ _ _ (olp_l hz3 hL3) (lv_sub hl [0, 1, 2, 3, 4] rfl)
        · have hz3 := oif_f hz3 hc
          refine lv_iload_n (pc := 30) hx hb dX6_itemsWithNearIn_30 rfl (lv_at hl 1 rfl) ?_
          refine lv_iconst (v := (1 : Int32)) (pc := 31) hx hb dX6_itemsWithNearIn_31 (by decide) ?_
          refine lv_iload (pc := 32) hx hb dX6_itemsWithNearIn_32 (lv_at hl 0 rfl) ?_
          refine lv_ishl (pc := 34) hx hb dX6_itemsWithNearIn_34 ?_
          refine lv_ior (pc := 35) hx hb dX6_itemsWithNearIn_35 ?_
          refine lv_istore_n (lv' := [(3, .int (x3_2 ||| ((1 : Int32) <<< (x4_2 &&& 31)))), (4, .int x4_2), (0, .ref so), (1, .int p1), (2, .int p2)]) (pc := 36) hx hb dX6_itemsWithNearIn_36 rfl hl (by decide) rfl (fun ls hl => ?_)
          refine lv_iinc (v := (x4_2 + (1 : Int32))) (lv' := [(4, .int (x4_2 + (1 : Int32))), (3, .int (x3_2 ||| ((1 : Int32) <<< (x4_2 &&& 31)))), (0, .ref so), (1, .int p1), (2, .int p2)]) (pc := 37) hx hb dX6_itemsWithNearIn_37 hl (k := 1) rfl rfl (by decide) rfl (fun ls hl => ?_)
          refine lv_goto (pc := 40) (tgt := 5) hx hb dX6_itemsWithNearIn_40 (by decide) ?_
          exact ih _ _ _ (olp_l hz3 hL3) (lv_sub hl [0, 1, 2, 3, 4] rfl)
  exact lp3 oFu _ _ _ hL3 (lv_sub hl [0, 1, 2, 3, 4] rfl)
def fX6_setOfKind (p2 : Int32) (p3 : Int32) (p4 : Int32) (sn : Int32) (sl : Int32) (sfin : Int32) (swk : Int32) (scols : (Nat → Int32)) (snear : (Nat → Int32)) (slds : (Nat → Int32)) (qc : Int32) (qf : (Nat → Int32)) : Option (Int32) := (if p2 = (0 : Int32) then (ob1 (fX6_hasItem p3 sn sl sfin swk) (fun r_1 => (if r_1 = (0 : Int32) then (some (0 : Int32)) else (ogd p3 12 (some (snear (Int32.toNatClampNeg p3))))))) else (if p2 = (1 : Int32) then (ob1 (fX6_hasItem p3 sn sl sfin swk) (fun r_2 => (if r_2 = (0 : Int32) then (some (0 : Int32)) else (ogd p3 12 (some ((snear (Int32.toNatClampNeg p3)) ||| ((1 : Int32) <<< (p3 &&& 31)))))))) else (if p2 = (2 : Int32) then (ob1 (fX6_itemsWithColumn p3 sn sl sfin swk scols) (fun r_3 => (some r_3))) else (if p2 = (3 : Int32) then (ob1 (fX5_setAt p4 qc qf) (fun r_4 => (ob1 (fX6_itemsThatGoInto p3 r_4 sn sl sfin swk slds) (fun r_5 => (some r_5))))) else (if p2 = (4 : Int32) then (some sfin) else (if p2 = (5 : Int32) then (ob1 (fX5_setAt p3 qc qf) (fun r_6 => (ob1 (fX6_itemsWithNearIn r_6 p4 sn sl sfin swk snear) (fun r_7 => (some r_7))))) else (some (0 : Int32))))))))
abbrev wX6_setOfKind (cI cZ cM cS : ClassId) (so sca sna sla sra qo qs : Nat) (sn : Int32) (sl : Int32) (sfin : Int32) (swk : Int32) (scols : (Nat → Int32)) (snear : (Nat → Int32)) (slds : (Nat → Int32)) (qc : Int32) (qf : (Nat → Int32)) : va_W := [(so, .inr (6, [.int sn, .int sl, .int sfin, .int swk, .ref sca, .ref sna, .ref sla, .ref sra])), (sca, .inl (cI, 12, .inl scols)), (sna, .inl (cI, 12, .inl snear)), (sla, .inl (cI, 36, .inl slds)), (qo, .inr (5, [.ref qs, .int qc])), (qs, .inl (cI, 12, .inl qf))]
set_option maxHeartbeats 4000000 in
set_option maxRecDepth 100000 in
theorem tX6_setOfKind (l : Launch) (D : va_G) (cI cZ cM cS : ClassId) (so sca sna sla sra qo qs : Nat) (sn : Int32) (sl : Int32) (sfin : Int32) (swk : Int32) (scols : (Nat → Int32)) (snear : (Nat → Int32)) (slds : (Nat → Int32)) (qc : Int32) (qf : (Nat → Int32)) (p2 : Int32) (p3 : Int32) (p4 : Int32) {r : Int32} (hF : fX6_setOfKind p2 p3 p4 sn sl sfin swk scols snear slds qc qf = some r) : zCR l yX6_setOfKind wsX6_setOfKind (zRm 3 67) D (zTy cI cZ cM cS) [.ref so, .ref qo, .int p2, .int p3, .int p4] (wX6_setOfKind cI cZ cM cS so sca sna sla sra qo qs sn sl sfin swk scols snear slds qc qf) r := by
  unfold fX6_setOfKind at hF
  refine zCR_of (cc := cX6_setOfKind) (maxL := 5) (own := RX6) (by decide +kernel) rfl rfl (Nat.le_of_ble_eq_true rfl) (fun p e s m args below meth c Q ls E hK hP hRet hl => ?_)
  have hl : lv_has ls 5 [(0, .ref so), (1, .ref qo), (2, .int p2), (3, .int p3), (4, .int p4)] := hl
  obtain ⟨hx, hb, hml, hown, hts⟩ := id E
  have inX6 : ∀ w ∈ u_ws RX6 TX6 8, w ∈ wsX6_setOfKind := by decide +kernel
  have fl15 := hts (.fieldLink RX6 15 "SplitClasses$State" "nearSets" "[I") (by decide +kernel)
  have fl48 := hts (.fieldLink RX6 48 "SplitClasses$State" "finalSet" "I") (by decide +kernel)
  refine lv_iload_n (pc := 0) hx hb dX6_setOfKind_0 rfl (lv_at hl 2 rfl) ?_
  refine lv_topi (fun xs exs => ?_)
  by_cases hk10100 : p2 = (0 : Int32)
  · have hF := oif_t hF hk10100
    rw [hk10100] at exs
    rw [exs]
    refine lv_tableIn (pc := 1) (tgt := 40) hx hb dX6_setOfKind_1 (by decide) (by decide) rfl (by decide) ?_
    refine lv_aload_n (pc := 40) hx hb dX6_setOfKind_40 rfl (lv_at hl 0 rfl) ?_
    refine lv_iload_n (pc := 41) hx hb dX6_setOfKind_41 rfl (lv_at hl 3 rfl) ?_
    obtain ⟨r_1, hC1, hF⟩ := ob1_e hF
    refine zVr (pc := 42) (As := [.int p3]) (rest := []) E (tX6_hasItem l D cI cZ cM cS so sca sna sla sra sn sl sfin swk p3 hC1) 1 gX6_setOfKind_X6_hasItem rfl rfl rfl (by decide +kernel) ⟨Nat.le_of_ble_eq_true rfl, Nat.le_of_ble_eq_true rfl⟩ hK hP [0] rfl 0 6 rfl rfl rfl rfl hl.1 rfl (Nat.le_of_ble_eq_true rfl) dX6_setOfKind_42 ⟨Nat.zero_le _, Nat.zero_le _⟩ ?_
    refine lv_if_eq (pc := 45) (tgt := 57) hx hb dX6_setOfKind_45 (by decide) (fun hc => ?_) (fun hc => ?_)
    · have hF := oif_t hF hc
      refine lv_iconst (v := (0 : Int32)) (pc := 57) hx hb dX6_setOfKind_57 (by decide) ?_
      cases hF
      exact hRet _ _ rfl dX6_setOfKind_58
    · have hF := oif_f hF hc
      refine lv_aload_n (pc := 48) hx hb dX6_setOfKind_48 rfl (lv_at hl 0 rfl) ?_
      refine va_get (pc := 49) (ci := 6) (C := RX6) (T := TX6) (N := 8) hx hb hts inX6 hown hK hP 0 rfl rfl 5 (by decide) fl15 (fun _ h9 => h9) rfl dX6_setOfKind_49 ?_
      refine lv_iload_n (pc := 52) hx hb dX6_setOfKind_52 rfl (lv_at hl 3 rfl) ?_
      obtain ⟨hg2, hF⟩ := ogd_e hF
      refine va_iald (pc := 53) hx hb hK hP 2 0 rfl rfl hg2 dX6_setOfKind_53 ?_
      refine lv_goto (pc := 54) (tgt := 58) hx hb dX6_setOfKind_54 (by decide) ?_
      cases hF
      exact hRet _ _ rfl dX6_setOfKind_58
  have hF := oif_f hF hk10100
  by_cases hk10101 : p2 = (1 : Int32)
  · have hF := oif_t hF hk10101
    rw [hk10101] at exs
    rw [exs]
    refine lv_tableIn (pc := 1) (tgt := 59) hx hb dX6_setOfKind_1 (by decide) (by decide) rfl (by decide) ?_
    refine lv_aload_n (pc := 59) hx hb dX6_setOfKind_59 rfl (lv_at hl 0 rfl) ?_
    refine lv_iload_n (pc := 60) hx hb dX6_setOfKind_60 rfl (lv_at hl 3 rfl) ?_
    obtain ⟨r_2, hC3, hF⟩ := ob1_e hF
    refine zVr (pc := 61) (As := [.int p3]) (rest := []) E (tX6_hasItem l D cI cZ cM cS so sca sna sla sra sn sl sfin swk p3 hC3) 1 gX6_setOfKind_X6_hasItem rfl rfl rfl (by decide +kernel) ⟨Nat.le_of_ble_eq_true rfl, Nat.le_of_ble_eq_true rfl⟩ hK hP [0] rfl 0 6 rfl rfl rfl rfl hl.1 rfl (Nat.le_of_ble_eq_true rfl) dX6_setOfKind_61 ⟨Nat.zero_le _, Nat.zero_le _⟩ ?_
    refine lv_if_eq (pc := 64) (tgt := 80) hx hb dX6_setOfKind_64 (by decide) (fun hc => ?_) (fun hc => ?_)
    · have hF := oif_t hF hc
      refine lv_iconst (v := (0 : Int32)) (pc := 80) hx hb dX6_setOfKind_80 (by decide) ?_
      cases hF
      exact hRet _ _ rfl dX6_setOfKind_81
    · have hF := oif_f hF hc
      refine lv_aload_n (pc := 67) hx hb dX6_setOfKind_67 rfl (lv_at hl 0 rfl) ?_
      refine va_get (pc := 68) (ci := 6) (C := RX6) (T := TX6) (N := 8) hx hb hts inX6 hown hK hP 0 rfl rfl 5 (by decide) fl15 (fun _ h9 => h9) rfl dX6_setOfKind_68 ?_
      refine lv_iload_n (pc := 71) hx hb dX6_setOfKind_71 rfl (lv_at hl 3 rfl) ?_
      obtain ⟨hg4, hF⟩ := ogd_e hF
      refine va_iald (pc := 72) hx hb hK hP 2 0 rfl rfl hg4 dX6_setOfKind_72 ?_
      refine lv_iconst (v := (1 : Int32)) (pc := 73) hx hb dX6_setOfKind_73 (by decide) ?_
      refine lv_iload_n (pc := 74) hx hb dX6_setOfKind_74 rfl (lv_at hl 3 rfl) ?_
      refine lv_ishl (pc := 75) hx hb dX6_setOfKind_75 ?_
      refine lv_ior (pc := 76) hx hb dX6_setOfKind_76 ?_
      refine lv_goto (pc := 77) (tgt := 81) hx hb dX6_setOfKind_77 (by decide) ?_
      cases hF
      exact hRet _ _ rfl dX6_setOfKind_81
  have hF := oif_f hF hk10101
  by_cases hk10102 : p2 = (2 : Int32)
  · have hF := oif_t hF hk10102
    rw [hk10102] at exs
    rw [exs]
    refine lv_tableIn (pc := 1) (tgt := 82) hx hb dX6_setOfKind_1 (by decide) (by decide) rfl (by decide) ?_
    refine lv_aload_n (pc := 82) hx hb dX6_setOfKind_82 rfl (lv_at hl 0 rfl) ?_
    refine lv_iload_n (pc := 83) hx hb dX6_setOfKind_83 rfl (lv_at hl 3 rfl) ?_
    obtain ⟨r_3, hC5, hF⟩ := ob1_e hF
    refine zVr (pc := 84) (As := [.int p3]) (rest := []) E (tX6_itemsWithColumn l D cI cZ cM cS so sca sna sla sra sn sl sfin swk scols p3 hC5) 1 gX6_setOfKind_X6_itemsWithColumn rfl rfl rfl (by decide +kernel) ⟨Nat.le_of_ble_eq_true rfl, Nat.le_of_ble_eq_true rfl⟩ hK hP [0, 1] rfl 0 6 rfl rfl rfl rfl hl.1 rfl (Nat.le_of_ble_eq_true rfl) dX6_setOfKind_84 ⟨Nat.zero_le _, Nat.zero_le _⟩ ?_
    cases hF
    exact hRet _ _ rfl dX6_setOfKind_87
  have hF := oif_f hF hk10102
  by_cases hk10103 : p2 = (3 : Int32)
  · have hF := oif_t hF hk10103
    rw [hk10103] at exs
    rw [exs]
    refine lv_tableIn (pc := 1) (tgt := 88) hx hb dX6_setOfKind_1 (by decide) (by decide) rfl (by decide) ?_
    refine lv_aload_n (pc := 88) hx hb dX6_setOfKind_88 rfl (lv_at hl 0 rfl) ?_
    refine lv_iload_n (pc := 89) hx hb dX6_setOfKind_89 rfl (lv_at hl 3 rfl) ?_
    refine lv_aload_n (pc := 90) hx hb dX6_setOfKind_90 rfl (lv_at hl 1 rfl) ?_
    refine lv_iload (pc := 91) hx hb dX6_setOfKind_91 (lv_at hl 4 rfl) ?_
    obtain ⟨r_4, hC6, hF⟩ := ob1_e hF
    refine zVr (pc := 93) (As := [.int p4]) (rest := [.int p3, .ref so]) E (tX5_setAt l D cI cZ cM cS qo qs qc qf p4 hC6) 1 gX6_setOfKind_X5_setAt rfl rfl rfl (by decide +kernel) ⟨Nat.le_of_ble_eq_true rfl, Nat.le_of_ble_eq_true rfl⟩ hK hP [4, 5] rfl 0 5 rfl rfl rfl rfl hl.1 rfl (Nat.le_of_ble_eq_true rfl) dX6_setOfKind_93 ⟨Nat.zero_le _, Nat.zero_le _⟩ ?_
    obtain ⟨r_5, hC7, hF⟩ := ob1_e hF
    refine zVr (pc := 96) (As := [.int p3, .int r_4]) (rest := []) E (tX6_itemsThatGoInto l D cI cZ cM cS so sca sna sla sra sn sl sfin swk slds p3 r_4 hC7) 2 gX6_setOfKind_X6_itemsThatGoInto rfl rfl rfl (by decide +kernel) ⟨Nat.le_of_ble_eq_true rfl, Nat.le_of_ble_eq_true rfl⟩ hK hP [0, 3] rfl 0 6 rfl rfl rfl rfl hl.1 rfl (Nat.le_of_ble_eq_true rfl) dX6_setOfKind_96 ⟨Nat.zero_le _, Nat.zero_le _⟩ ?_
    cases hF
    exact hRet _ _ rfl dX6_setOfKind_99
  have hF := oif_f hF hk10103
  by_cases hk10104 : p2 = (4 : Int32)
  · have hF := oif_t hF hk10104
    rw [hk10104] at exs
    rw [exs]
    refine lv_tableIn (pc := 1) (tgt := 100) hx hb dX6_setOfKind_1 (by decide) (by decide) rfl (by decide) ?_
    refine lv_aload_n (pc := 100) hx hb dX6_setOfKind_100 rfl (lv_at hl 0 rfl) ?_
    refine va_get (pc := 101) (ci := 6) (C := RX6) (T := TX6) (N := 8) hx hb hts inX6 hown hK hP 0 rfl rfl 2 (by decide) fl48 (fun _ h9 => h9) rfl dX6_setOfKind_101 ?_
    cases hF
    exact hRet _ _ rfl dX6_setOfKind_104
  have hF := oif_f hF hk10104
  by_cases hk10105 : p2 = (5 : Int32)
  · have hF := oif_t hF hk10105
    rw [hk10105] at exs
    rw [exs]
    refine lv_tableIn (pc := 1) (tgt := 105) hx hb dX6_setOfKind_1 (by decide) (by decide) rfl (by decide) ?_
    refine lv_aload_n (pc := 105) hx hb dX6_setOfKind_105 rfl (lv_at hl 0 rfl) ?_
    refine lv_aload_n (pc := 106) hx hb dX6_setOfKind_106 rfl (lv_at hl 1 rfl) ?_
    refine lv_iload_n (pc := 107) hx hb dX6_setOfKind_107 rfl (lv_at hl 3 rfl) ?_
    obtain ⟨r_6, hC8, hF⟩ := ob1_e hF
    refine zVr (pc := 108) (As := [.int p3]) (rest := [.ref so]) E (tX5_setAt l D cI cZ cM cS qo qs qc qf p3 hC8) 1 gX6_setOfKind_X5_setAt rfl rfl rfl (by decide +kernel) ⟨Nat.le_of_ble_eq_true rfl, Nat.le_of_ble_eq_true rfl⟩ hK hP [4, 5] rfl 0 5 rfl rfl rfl rfl hl.1 rfl (Nat.le_of_ble_eq_true rfl) dX6_setOfKind_108 ⟨Nat.zero_le _, Nat.zero_le _⟩ ?_
    refine lv_iload (pc := 111) hx hb dX6_setOfKind_111 (lv_at hl 4 rfl) ?_
    obtain ⟨r_7, hC9, hF⟩ := ob1_e hF
    refine zVr (pc := 113) (As := [.int r_6, .int p4]) (rest := []) E (tX6_itemsWithNearIn l D cI cZ cM cS so sca sna sla sra sn sl sfin swk snear r_6 p4 hC9) 2 gX6_setOfKind_X6_itemsWithNearIn rfl rfl rfl (by decide +kernel) ⟨Nat.le_of_ble_eq_true rfl, Nat.le_of_ble_eq_true rfl⟩ hK hP [0, 2] rfl 0 6 rfl rfl rfl rfl hl.1 rfl (Nat.le_of_ble_eq_true rfl) dX6_setOfKind_113 ⟨Nat.zero_le _, Nat.zero_le _⟩ ?_
    cases hF
    exact hRet _ _ rfl dX6_setOfKind_116
  have hF := oif_f hF hk10105
  rw [exs]
  refine lv_tableOut (pc := 1) (tgt := 117) hx hb dX6_setOfKind_1 (ztabO 6 [0, 1, 2, 3, 4, 5] (by decide) (by decide) (zallC hk10100 (zallC hk10101 (zallC hk10102 (zallC hk10103 (zallC hk10104 (zallC hk10105 zallN))))))) (by decide) ?_
  refine lv_iconst (v := (0 : Int32)) (pc := 117) hx hb dX6_setOfKind_117 (by decide) ?_
  cases hF
  exact hRet _ _ rfl dX6_setOfKind_118
