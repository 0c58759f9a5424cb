def fX4_cutByLetters_b13 (bc : Int32) (bf : (Nat → Int32)) (x3_2 : Int32) (sn : Int32) (sl : Int32) (sfin : Int32) (swk : Int32) (slds : (Nat → Int32)) (x4_4 : Int32) (qc_11 : Int32) (qf_11 : (Nat → Int32)) : Option ((Int32 × Int32 × (Nat → Int32)) ⊕ (Int32 × (Nat → Int32))) := (if bc ≤ x4_4 then (some (.inr (qc_11, qf_11))) else (ob1 (fX5_setAt x4_4 bc bf) (fun r_7 => (ob1 (fX6_itemsThatGoInto x3_2 r_7 sn sl sfin swk slds) (fun r_8 => (ob2 (fX5_cutBy r_8 qc_11 qf_11) (fun qc_13 qf_13 => (some (.inl ((x4_4 + (1 : Int32)), qc_13, qf_13))))))))))
def fX4_cutByLetters_s13 (bc : Int32) (bf : (Nat → Int32)) (x3_2 : Int32) (sn : Int32) (sl : Int32) (sfin : Int32) (swk : Int32) (slds : (Nat → Int32)) (sg_ : Int32 × Int32 × (Nat → Int32)) : Option ((Int32 × Int32 × (Nat → Int32)) ⊕ (Int32 × (Nat → Int32))) := fX4_cutByLetters_b13 bc bf x3_2 sn sl sfin swk slds sg_.1 sg_.2.1 sg_.2.2
def fX4_cutByLetters_b2 (sl : Int32) (bc : Int32) (bf : (Nat → Int32)) (sn : Int32) (sfin : Int32) (swk : Int32) (slds : (Nat → Int32)) (x3_2 : Int32) (qc_7 : Int32) (qf_7 : (Nat → Int32)) : Option ((Int32 × Int32 × (Nat → Int32)) ⊕ (Int32 × (Nat → Int32))) := (if sl ≤ x3_2 then (some (.inr (qc_7, qf_7))) else (ob2 (olp (fX4_cutByLetters_s13 bc bf x3_2 sn sl sfin swk slds) oFu ((0 : Int32), qc_7, qf_7)) (fun qc_12 qf_12 => (some (.inl ((x3_2 + (1 : Int32)), qc_12, qf_12))))))
def fX4_cutByLetters_s2 (sl : Int32) (bc : Int32) (bf : (Nat → Int32)) (sn : Int32) (sfin : Int32) (swk : Int32) (slds : (Nat → Int32)) (sg_ : Int32 × Int32 × (Nat → Int32)) : Option ((Int32 × Int32 × (Nat → Int32)) ⊕ (Int32 × (Nat → Int32))) := fX4_cutByLetters_b2 sl bc bf sn sfin swk slds sg_.1 sg_.2.1 sg_.2.2
def fX4_cutByLetters (bc : Int32) (bf : (Nat → Int32)) (sn : Int32) (sl : Int32) (sfin : Int32) (swk : Int32) (slds : (Nat → Int32)) (qc : Int32) (qf : (Nat → Int32)) : Option (Int32 × (Nat → Int32)) := (ob2 (olp (fX4_cutByLetters_s2 sl bc bf sn sfin swk slds) oFu ((0 : Int32), qc, qf)) (fun qc_8 qf_8 => (some (qc_8, qf_8))))
abbrev wX4_cutByLetters (cI cZ cM cS : ClassId) (fo bo bs so sca sna sla sra qo qs : Nat) (bc : Int32) (bf : (Nat → Int32)) (sn : Int32) (sl : Int32) (sfin : Int32) (swk : Int32) (slds : (Nat → Int32)) (qc : Int32) (qf : (Nat → Int32)) : va_W := [(fo, .inr (4, [.ref bo])), (bo, .inr (5, [.ref bs, .int bc])), (bs, .inl (cI, 12, .inl bf)), (so, .inr (6, [.int sn, .int sl, .int sfin, .int swk, .ref sca, .ref sna, .ref sla, .ref sra])), (sla, .inl (cI, 36, .inl slds)), (qo, .inr (5, [.ref qs, .int qc])), (qs, .inl (cI, 12, .inl qf))]
set_option maxHeartbeats 4000000 in
set_option maxRecDepth 100000 in
theorem tX4_cutByLetters (l : Launch) (D : va_G) (cI cZ cM cS : ClassId) (fo bo bs so sca sna sla sra qo qs : Nat) (bc : Int32) (bf : (Nat → Int32)) (sn : Int32) (sl : Int32) (sfin : Int32) (swk : Int32) (slds : (Nat → Int32)) (qc : Int32) (qf : (Nat → Int32)) {qc' : Int32} {qf' : (Nat → Int32)} (hF : fX4_cutByLetters bc bf sn sl sfin swk slds qc qf = some (qc', qf')) : zCW l yX4_cutByLetters wsX4_cutByLetters (zRm 3 67) D (zTy cI cZ cM cS) [.ref fo, .ref so, .ref qo] (wX4_cutByLetters cI cZ cM cS fo bo bs so sca sna sla sra qo qs bc bf sn sl sfin swk slds qc qf) (wX4_cutByLetters cI cZ cM cS fo bo bs so sca sna sla sra qo qs bc bf sn sl sfin swk slds qc' qf') none := by
  unfold fX4_cutByLetters at hF
  refine zCW_ofv (cc := cX4_cutByLetters) (maxL := 5) (own := RX4) (by decide) rfl rfl (Nat.le_of_ble_eq_true rfl) (fun p e s m args below meth c Q ls A E hA hK hP hD hRet hS hl => ?_)
  refine zgen (fun H locs hP hS => ?_) hP hS
  have hl : lv_has ls 5 [(0, .ref fo), (1, .ref so), (2, .ref qo)] := hl
  obtain ⟨hx, hb, hml, hown, hts⟩ := id E
  have inX4 : ∀ w ∈ u_ws RX4 TX4 1, w ∈ wsX4_cutByLetters := by decide +kernel
  have inX5 : ∀ w ∈ u_ws RX5 TX5 2, w ∈ wsX4_cutByLetters := by decide +kernel
  have inX6 : ∀ w ∈ u_ws RX6 TX6 8, w ∈ wsX4_cutByLetters := by decide +kernel
  have fl12 := hts (.fieldLink RX4 12 "SplitClasses$Refiner" "before" "LSplitClasses$Row;") (by decide +kernel)
  have fl54 := hts (.fieldLink RX4 54 "SplitClasses$Row" "count" "I") (by decide +kernel)
  have fl60 := hts (.fieldLink RX4 60 "SplitClasses$State" "letterCount" "I") (by decide +kernel)
  refine lv_iconst (v := (0 : Int32)) (pc := 0) hx hb dX4_cutByLetters_0 (by decide) ?_
  refine lv_istore_n (lv' := [(3, .int (0 : Int32)), (0, .ref fo), (1, .ref so), (2, .ref qo)]) (pc := 1) hx hb dX4_cutByLetters_1 rfl hl (by decide) rfl (fun ls hl => ?_)
  obtain ⟨qc_8, qf_8, hL8, hF⟩ := ob2_e hF
  have ex8 : ∀ (H : Heap) (locs : List Loc) (ls : Array Slot), va_P D vwCl (wX4_cutByLetters cI cZ cM cS fo bo bs so sca sna sla sra qo qs bc bf sn sl sfin swk slds qc_8 qf_8) H → va_D A (wX4_cutByLetters cI cZ cM cS fo bo bs so sca sna sla sra qo qs bc bf sn sl sfin swk slds qc_8 qf_8) → va_S A s.heap H locs → lv_has ls 5 [] → W p l e (zRm 3 67) s m args below meth c H locs 0 0 Q (F0 m 55 ls []) := by
    intro H locs ls hP hD hS hl
    cases hF
    exact hRet _ _ _ _ dX4_cutByLetters_55 hP hD hS
  have lp8 : ∀ (n : Nat) (x3_2 : Int32) (qc_7 : Int32) (qf_7 : (Nat → Int32)) (H : Heap) (locs : List Loc) (ls : Array Slot), olp (fX4_cutByLetters_s2 sl bc bf sn sfin swk slds) n (x3_2, qc_7, qf_7) = some (qc_8, qf_8) → va_P D vwCl (wX4_cutByLetters cI cZ cM cS fo bo bs so sca sna sla sra qo qs bc bf sn sl sfin swk slds qc_7 qf_7) H → va_D A (wX4_cutByLetters cI cZ cM cS fo bo bs so sca sna sla sra qo qs bc bf sn sl sfin swk slds qc_7 qf_7) → va_S A s.heap H locs → lv_has ls 5 [(3, .int x3_2), (0, .ref fo), (1, .ref so), (2, .ref qo)] → W p l e (zRm 3 67) s m args below meth c H locs 0 0 Q (F0 m 2 ls []) := by
    intro n
    induction n with
    | zero => intro x3_2 qc_7 qf_7 H locs ls hL; exact olp_0 hL
    | succ n ih =>
      intro x3_2 qc_7 qf_7 H locs ls hL8 hP hD hS hl
      obtain ⟨z, hz8, hL8⟩ := olp_e hL8
      have hz8 : fX4_cutByLetters_b2 sl bc bf sn sfin swk slds x3_2 qc_7 qf_7 = some z := hz8
      unfold fX4_cutByLetters_b2 at hz8
      refine lv_iload_n (pc := 2) hx hb dX4_cutByLetters_2 rfl (lv_at hl 0 rfl) ?_
      refine lv_aload_n (pc := 3) hx hb dX4_cutByLetters_3 rfl (lv_at hl 2 rfl) ?_
      refine va_get (pc := 4) (ci := 6) (C := RX6) (T := TX6) (N := 8) hx hb hts inX6 hown hK hP 3 rfl rfl 1 (by decide) fl60 (fun _ h9 => h9) rfl dX4_cutByLetters_4 ?_
      refine lv_icmp_ge (pc := 7) (tgt := 55) hx hb dX4_cutByLetters_7 (by decide) (fun hc => ?_) (fun hc => ?_)
      · have hz8 := oif_t hz8 hc
        have hE := olp_r hz8 hL8
        cases hE
        exact ex8 _ _ _ hP hD hS (lv_sub hl [] rfl)
      · have hz8 := oif_f hz8 hc
        refine lv_iconst (v := (0 : Int32)) (pc := 10) hx hb dX4_cutByLetters_10 (by decide) ?_
        refine lv_istore (lv' := [(4, .int (0 : Int32)), (3, .int x3_2), (0, .ref fo), (1, .ref so), (2, .ref qo)]) (pc := 11) hx hb dX4_cutByLetters_11 hl (by decide) rfl (fun ls hl => ?_)
        obtain ⟨qc_12, qf_12, hL12, hz8⟩ := ob2_e hz8
        have ex12 : ∀ (H : Heap) (locs : List Loc) (ls : Array Slot), va_P D vwCl (wX4_cutByLetters cI cZ cM cS fo bo bs so sca sna sla sra qo qs bc bf sn sl sfin swk slds qc_12 qf_12) H → va_D A (wX4_cutByLetters cI cZ cM cS fo bo bs so sca sna sla sra qo qs bc bf sn sl sfin swk slds qc_12 qf_12) → va_S A s.heap H locs → lv_has ls 5 [(3, .int x3_2), (0, .ref fo), (1, .ref so), (2, .ref qo)] → W p l e (zRm 3 67) s m args below meth c H locs 0 0 Q (F0 m 49 ls []) := by
          intro H locs ls hP hD hS hl
          refine lv_iinc (v := (x3_2 + (1 : Int32))) (lv' := [(3, .int (x3_2 + (1 : Int32))), (0, .ref fo), (1, .ref so), (2, .ref qo)]) (pc := 49) hx hb dX4_cutByLetters_49 hl (k := 0) rfl rfl (by decide) rfl (fun ls hl => ?_)
          refine lv_goto (pc := 52) (tgt := 2) hx hb dX4_cutByLetters_52 (by decide) ?_
          exact ih _ _ _ _ _ _ (olp_l hz8 hL8) hP hD hS (lv_sub hl [0, 1, 2, 3] rfl)
        have lp12 : ∀ (n : Nat) (x4_4 : Int32) (qc_11 : Int32) (qf_11 : (Nat → Int32)) (H : Heap) (locs : List Loc) (ls : Array Slot), olp (fX4_cutByLetters_s13 bc bf x3_2 sn sl sfin swk slds) n (x4_4, qc_11, qf_11) = some (qc_12, qf_12) → va_P D vwCl (wX4_cutByLetters cI cZ cM cS fo bo bs so sca sna sla sra qo qs bc bf sn sl sfin swk slds qc_11 qf_11) H → va_D A (wX4_cutByLetters cI cZ cM cS fo bo bs so sca sna sla sra qo qs bc bf sn sl sfin swk slds qc_11 qf_11) → va_S A s.heap H locs → lv_has ls 5 [(4, .int x4_4), (3, .int x3_2), (0, .ref fo), (1, .ref so), (2, .ref qo)] → W p l e (zRm 3 67) s m args below meth c H locs 0 0 Q (F0 m 13 ls []) := by
          intro n
          induction n with
          | zero => intro x4_4 qc_11 qf_11 H locs ls hL; exact olp_0 hL
          | succ n ih =>
            intro x4_4 qc_11 qf_11 H locs ls hL12 hP hD hS hl
            obtain ⟨z, hz12, hL12⟩ := olp_e hL12
            have hz12 : fX4_cutByLetters_b13 bc bf x3_2 sn sl sfin swk slds x4_4 qc_11 qf_11 = some z := hz12
            unfold fX4_cutByLetters_b13 at hz12
            refine lv_iload (pc := 13) hx hb dX4_cutByLetters_13 (lv_at hl 0 rfl) ?_
            refine lv_aload_n (pc := 15) hx hb dX4_cutByLetters_15 rfl (lv_at hl 2 rfl) ?_
            refine va_get (pc := 16) (ci := 4) (C := RX4) (T := TX4) (N := 1) hx hb hts inX4 hown hK hP 0 rfl rfl 0 (by decide) fl12 (fun _ h9 => h9) rfl dX4_cutByLetters_16 ?_
            refine va_get (pc := 19) (ci := 5) (C := RX5) (T := TX5) (N := 2) hx hb hts inX5 hown hK hP 1 rfl rfl 1 (by decide) fl54 (fun _ h9 => h9) rfl dX4_cutByLetters_19 ?_
            refine lv_icmp_ge (pc := 22) (tgt := 49) hx hb dX4_cutByLetters_22 (by decide) (fun hc => ?_) (fun hc => ?_)
            · have hz12 := oif_t hz12 hc
              have hE := olp_r hz12 hL12
              cases hE
              exact ex12 _ _ _ hP hD hS (lv_sub hl [1, 2, 3, 4] rfl)
            · have hz12 := oif_f hz12 hc
              refine lv_aload_n (pc := 25) hx hb dX4_cutByLetters_25 rfl (lv_at hl 4 rfl) ?_
              refine lv_aload_n (pc := 26) hx hb dX4_cutByLetters_26 rfl (lv_at hl 3 rfl) ?_
              refine lv_iload_n (pc := 27) hx hb dX4_cutByLetters_27 rfl (lv_at hl 1 rfl) ?_
              refine lv_aload_n (pc := 28) hx hb dX4_cutByLetters_28 rfl (lv_at hl 2 rfl) ?_
              refine va_get (pc := 29) (ci := 4) (C := RX4) (T := TX4) (N := 1) hx hb hts inX4 hown hK hP 0 rfl rfl 0 (by decide) fl12 (fun _ h9 => h9) rfl dX4_cutByLetters_29 ?_
              refine lv_iload (pc := 32) hx hb dX4_cutByLetters_32 (lv_at hl 0 rfl) ?_
              obtain ⟨r_7, hC13, hz12⟩ := ob1_e hz12
              refine zVr (pc := 34) (As := [.int x4_4]) (rest := [.int x3_2, .ref so, .ref qo]) E (tX5_setAt l D cI cZ cM cS bo bs bc bf x4_4 hC13) 1 gX4_cutByLetters_X5_setAt rfl rfl rfl (by decide +kernel) ⟨Nat.le_of_ble_eq_true rfl, Nat.le_of_ble_eq_true rfl⟩ hK hP [1, 2] rfl 0 5 rfl rfl rfl rfl hl.1 rfl (Nat.le_of_ble_eq_true rfl) dX4_cutByLetters_34 ⟨Nat.zero_le _, Nat.zero_le _⟩ ?_
              obtain ⟨r_8, hC14, hz12⟩ := ob1_e hz12
              refine zVr (pc := 37) (As := [.int x3_2, .int r_7]) (rest := [.ref qo]) E (tX6_itemsThatGoInto l D cI cZ cM cS so sca sna sla sra sn sl sfin swk slds x3_2 r_7 hC14) 2 gX4_cutByLetters_X6_itemsThatGoInto rfl rfl rfl (by decide +kernel) ⟨Nat.le_of_ble_eq_true rfl, Nat.le_of_ble_eq_true rfl⟩ hK hP [3, 4] rfl 0 6 rfl rfl rfl rfl hl.1 rfl (Nat.le_of_ble_eq_true rfl) dX4_cutByLetters_37 ⟨Nat.zero_le _, Nat.zero_le _⟩ ?_
              obtain ⟨qc_13, qf_13, hC15, hz12⟩ := ob2_e hz12
              refine zV (pc := 40) (As := [.int r_8]) (rest := []) (wr := [(fo, .inr (4, [.ref bo])), (bo, .inr (5, [.ref bs, .int bc])), (bs, .inl (cI, 12, .inl bf)), (so, .inr (6, [.int sn, .int sl, .int sfin, .int swk, .ref sca, .ref sna, .ref sla, .ref sra])), (sla, .inl (cI, 36, .inl slds))]) (w2 := (wX4_cutByLetters cI cZ cM cS fo bo bs so sca sna sla sra qo qs bc bf sn sl sfin swk slds qc_13 qf_13)) E (tX5_cutBy l D cI cZ cM cS qo qs qc_11 qf_11 r_8 hC15) 1 gX4_cutByLetters_X5_cutBy rfl rfl rfl (by decide +kernel) ⟨Nat.le_of_ble_eq_true rfl, Nat.le_of_ble_eq_true rfl⟩ hK hP hD hS hA [5, 6] [0, 1, 2, 3, 4] [0, 1, 2, 3, 4, 5, 6] (by decide) rfl rfl (by decide) (by decide) rfl (by decide) 0 5 rfl rfl rfl rfl hl.1 rfl (Nat.le_of_ble_eq_true rfl) dX4_cutByLetters_40 ⟨Nat.zero_le _, Nat.zero_le _⟩ (fun H locs hP hD hS => ?_)
              refine W.eq (g2 := F0 m 43 ls []) rfl ?_
              refine lv_iinc (v := (x4_4 + (1 : Int32))) (lv' := [(4, .int (x4_4 + (1 : Int32))), (3, .int x3_2), (0, .ref fo), (1, .ref so), (2, .ref qo)]) (pc := 43) hx hb dX4_cutByLetters_43 hl (k := 0) rfl rfl (by decide) rfl (fun ls hl => ?_)
              refine lv_goto (pc := 46) (tgt := 13) hx hb dX4_cutByLetters_46 (by decide) ?_
              exact ih _ _ _ _ _ _ (olp_l hz12 hL12) hP hD hS (lv_sub hl [0, 1, 2, 3, 4] rfl)
        exact lp12 oFu _ _ _ _ _ _ hL12 hP hD hS (lv_sub hl [0, 1, 2, 3, 4] rfl)
  exact lp8 oFu _ _ _ _ _ _ hL8 hP hD hS (lv_sub hl [0, 1, 2, 3] rfl)
def fX4_cutByNearCounts_b33 (r_6 : Int32) (r_5 : Int32) (sn : Int32) (sl : Int32) (sfin : Int32) (swk : Int32) (snear : (Nat → Int32)) (x6_4 : Int32) (qc_11 : Int32) (qf_11 : (Nat → Int32)) : Option ((Int32 × Int32 × (Nat → Int32)) ⊕ (Int32 × (Nat → Int32))) := (if r_6 < x6_4 then (some (.inr (qc_11, qf_11))) else (ob1 (fX6_itemsWithNearIn r_5 x6_4 sn sl sfin swk snear) (fun r_8 => (ob2 (fX5_cutBy r_8 qc_11 qf_11) (fun qc_13 qf_13 => (some (.inl ((x6_4 + (1 : Int32)), qc_13, qf_13))))))))
def fX4_cutByNearCounts_s33 (r_6 : Int32) (r_5 : Int32) (sn : Int32) (sl : Int32) (sfin : Int32) (swk : Int32) (snear : (Nat → Int32)) (sg_ : Int32 × Int32 × (Nat → Int32)) : Option ((Int32 × Int32 × (Nat → Int32)) ⊕ (Int32 × (Nat → Int32))) := fX4_cutByNearCounts_b33 r_6 r_5 sn sl sfin swk snear sg_.1 sg_.2.1 sg_.2.2
def fX4_cutByNearCounts_b2 (bc : Int32) (bf : (Nat → Int32)) (sn : Int32) (sl : Int32) (sfin : Int32) (swk : Int32) (snear : (Nat → Int32)) (x3_2 : Int32) (qc_7 : Int32) (qf_7 : (Nat → Int32)) : Option ((Int32 × Int32 × (Nat → Int32)) ⊕ (Int32 × (Nat → Int32))) := (if bc ≤ x3_2 then (some (.inr (qc_7, qf_7))) else (ob1 (fX5_setAt x3_2 bc bf) (fun r_5 => (ob1 (fJ6_bitCount_0f7a4 r_5) (fun r_6 => (ob2 (olp (fX4_cutByNearCounts_s33 r_6 r_5 sn sl sfin swk snear) oFu ((1 : Int32), qc_7, qf_7)) (fun qc_12 qf_12 => (some (.inl ((x3_2 + (1 : Int32)), qc_12, qf_12))))))))))
def fX4_cutByNearCounts_s2 (bc : Int32) (bf : (Nat → Int32)) (sn : Int32) (sl : Int32) (sfin : Int32) (swk : Int32) (snear : (Nat → Int32)) (sg_ : Int32 × Int32 × (Nat → Int32)) : Option ((Int32 × Int32 × (Nat → Int32)) ⊕ (Int32 × (Nat → Int32))) := fX4_cutByNearCounts_b2 bc bf sn sl sfin swk snear sg_.1 sg_.2.1 sg_.2.2
def fX4_cutByNearCounts (bc : Int32) (bf : (Nat → Int32)) (sn : Int32) (sl : Int32) (sfin : Int32) (swk : Int32) (snear : (Nat → Int32)) (qc : Int32) (qf : (Nat → Int32)) : Option (Int32 × (Nat → Int32)) := (ob2 (olp (fX4_cutByNearCounts_s2 bc bf sn sl sfin swk snear) oFu ((0 : Int32), qc, qf)) (fun qc_8 qf_8 => (some (qc_8, qf_8))))
abbrev wX4_cutByNearCounts (cI cZ cM cS : ClassId) (fo bo bs so sca sna sla sra qo qs : Nat) (bc : Int32) (bf : (Nat → Int32)) (sn : Int32) (sl : Int32) (sfin : Int32) (swk : Int32) (snear : (Nat → Int32)) (qc : Int32) (qf : (Nat → Int32)) : va_W := [(fo, .inr (4, [.ref bo])), (bo, .inr (5, [.ref bs, .int bc])), (bs, .inl (cI, 12, .inl bf)), (so, .inr (6, [.int sn, .int sl, .int sfin, .int swk, .ref sca, .ref sna, .ref sla, .ref sra])), (sna, .inl (cI, 12, .inl snear)), (qo, .inr (5, [.ref qs, .int qc])), (qs, .inl (cI, 12, .inl qf))]
set_option maxHeartbeats 4000000 in
set_option maxRecDepth 100000 in
theorem tX4_cutByNearCounts (l : Launch) (D : va_G) (cI cZ cM cS : ClassId) (fo bo bs so sca sna sla sra qo qs : Nat) (bc : Int32) (bf : (Nat → Int32)) (sn : Int32) (sl : Int32) (sfin : Int32) (swk : Int32) (snear : (Nat → Int32)) (qc : Int32) (qf : (Nat → Int32)) {qc' : Int32} {qf' : (Nat → Int32)} (hF : fX4_cutByNearCounts bc bf sn sl sfin swk snear qc qf = some (qc', qf')) : zCW l yX4_cutByNearCounts wsX4_cutByNearCounts (zRm 2 46) D (zTy cI cZ cM cS) [.ref fo, .ref so, .ref qo] (wX4_cutByNearCounts cI cZ cM cS fo bo bs so sca sna sla sra qo qs bc bf sn sl sfin swk snear qc qf) (wX4_cutByNearCounts cI cZ cM cS fo bo bs so sca sna sla sra qo qs bc bf sn sl sfin swk snear qc' qf') none := by
  unfold fX4_cutByNearCounts at hF
  refine zCW_ofv (cc := cX4_cutByNearCounts) (maxL := 7) (own := RX4) (by decide) rfl rfl (Nat.le_of_ble_eq_true rfl) (fun p e s m args below meth c Q ls A E hA hK hP hD hRet hS hl => ?_)
  refine zgen (fun H locs hP hS => ?_) hP hS
  have hl : lv_has ls 7 [(0, .ref fo), (1, .ref so), (2, .ref qo)] := hl
  obtain ⟨hx, hb, hml, hown, hts⟩ := id E
  have inX4 : ∀ w ∈ u_ws RX4 TX4 1, w ∈ wsX4_cutByNearCounts := by decide +kernel
  have inX5 : ∀ w ∈ u_ws RX5 TX5 2, w ∈ wsX4_cutByNearCounts := by decide +kernel
  have fl12 := hts (.fieldLink RX4 12 "SplitClasses$Refiner" "before" "LSplitClasses$Row;") (by decide +kernel)
  have fl54 := hts (.fieldLink RX4 54 "SplitClasses$Row" "count" "I") (by decide +kernel)
  refine lv_iconst (v := (0 : Int32)) (pc := 0) hx hb dX4_cutByNearCounts_0 (by decide) ?_
  refine lv_istore_n (lv' := [(3, .int (0 : Int32)), (0, .ref fo), (1, .ref so), (2, .ref qo)]) (pc := 1) hx hb dX4_cutByNearCounts_1 rfl hl (by decide) rfl (fun ls hl => ?_)
  obtain ⟨qc_8, qf_8, hL8, hF⟩ := ob2_e hF
  have ex8 : ∀ (H : Heap) (locs : List Loc) (ls : Array Slot), va_P D vwCl (wX4_cutByNearCounts cI cZ cM cS fo bo bs so sca sna sla sra qo qs bc bf sn sl sfin swk snear qc_8 qf_8) H → va_D A (wX4_cutByNearCounts cI cZ cM cS fo bo bs so sca sna sla sra qo qs bc bf sn sl sfin swk snear qc_8 qf_8) → va_S A s.heap H locs → lv_has ls 7 [] → W p l e (zRm 2 46) s m args below meth c H locs 0 0 Q (F0 m 64 ls []) := by
    intro H locs ls hP hD hS hl
    cases hF
    exact hRet _ _ _ _ dX4_cutByNearCounts_64 hP hD hS
  have lp8 : ∀ (n : Nat) (x3_2 : Int32) (qc_7 : Int32) (qf_7 : (Nat → Int32)) (H : Heap) (locs : List Loc) (ls : Array Slot), olp (fX4_cutByNearCounts_s2 bc bf sn sl sfin swk snear) n (x3_2, qc_7, qf_7) = some (qc_8, qf_8) → va_P D vwCl (wX4_cutByNearCounts cI cZ cM cS fo bo bs so sca sna sla sra qo qs bc bf sn sl sfin swk snear qc_7 qf_7) H → va_D A (wX4_cutByNearCounts cI cZ cM cS fo bo bs so sca sna sla sra qo qs bc bf sn sl sfin swk snear qc_7 qf_7) → va_S A s.heap H locs → lv_has ls 7 [(3, .int x3_2), (0, .ref fo), (1, .ref so), (2, .ref qo)] → W p l e (zRm 2 46) s m args below meth c H locs 0 0 Q (F0 m 2 ls []) := by
    intro n
    induction n with
    | zero => intro x3_2 qc_7 qf_7 H locs ls hL; exact olp_0 hL
    | succ n ih =>
      intro x3_2 qc_7 qf_7 H locs ls hL8 hP hD hS hl
      obtain ⟨z, hz8, hL8⟩ := olp_e hL8
      have hz8 : fX4_cutByNearCounts_b2 bc bf sn sl sfin swk snear x3_2 qc_7 qf_7 = some z := hz8
      unfold fX4_cutByNearCounts_b2 at hz8
      refine lv_iload_n (pc := 2) hx hb dX4_cutByNearCounts_2 rfl (lv_at hl 0 rfl) ?_
      refine lv_aload_n (pc := 3) hx hb dX4_cutByNearCounts_3 rfl (lv_at hl 1 rfl) ?_
      refine va_get (pc := 4) (ci := 4) (C := RX4) (T := TX4) (N := 1) hx hb hts inX4 hown hK hP 0 rfl rfl 0 (by decide) fl12 (fun _ h9 => h9) rfl dX4_cutByNearCounts_4 ?_
      refine va_get (pc := 7) (ci := 5) (C := RX5) (T := TX5) (N := 2) hx hb hts inX5 hown hK hP 1 rfl rfl 1 (by decide) fl54 (fun _ h9 => h9) rfl dX4_cutByNearCounts_7 ?_
      refine lv_icmp_ge (pc := 10) (tgt := 64) hx hb dX4_cutByNearCounts_10 (by decide) (fun hc => ?_) (fun hc => ?_)
      · have hz8 := oif_t hz8 hc
        have hE := olp_r hz8 hL8
        cases hE
        exact ex8 _ _ _ hP hD hS (lv_sub hl [] rfl)
      · have hz8 := oif_f hz8 hc
        refine lv_aload_n (pc := 13) hx hb dX4_cutByNearCounts_13 rfl (lv_at hl 1 rfl) ?_
        refine va_get (pc := 14) (ci := 4) (C := RX4) (T := TX4) (N := 1) hx hb hts inX4 hown hK hP 0 rfl rfl 0 (by decide) fl12 (fun _ h9 => h9) rfl dX4_cutByNearCounts_14 ?_
        refine lv_iload_n (pc := 17) hx hb dX4_cutByNearCounts_17 rfl (lv_at hl 0 rfl) ?_
        obtain ⟨r_5, hC9, hz8⟩ := ob1_e hz8
        refine zVr (pc := 18) (As := [.int x3_2]) (rest := []) E (tX5_setAt l D cI cZ cM cS bo bs bc bf x3_2 hC9) 1 gX4_cutByNearCounts_X5_setAt rfl rfl rfl (by decide +kernel) ⟨Nat.le_of_ble_eq_true rfl, Nat.le_of_ble_eq_true rfl⟩ hK hP [1, 2] rfl 0 5 rfl rfl rfl rfl hl.1 rfl (Nat.le_of_ble_eq_true rfl) dX4_cutByNearCounts_18 ⟨Nat.zero_le _, Nat.zero_le _⟩ ?_
        refine lv_istore (lv' := [(4, .int r_5), (3, .int x3_2), (0, .ref fo), (1, .ref so), (2, .ref qo)]) (pc := 21) hx hb dX4_cutByNearCounts_21 hl (by decide) rfl (fun ls hl => ?_)
        refine lv_iload (pc := 23) hx hb dX4_cutByNearCounts_23 (lv_at hl 0 rfl) ?_
        obtain ⟨r_6, hC10, hz8⟩ := ob1_e hz8
        refine zSr (pc := 25) (As := [.int r_5]) (rest := []) E (tJ6_bitCount_0f7a4 l D cI cZ cM cS r_5 hC10) 1 gX4_cutByNearCounts_J6_bitCount_0f7a4 rfl rfl rfl (by decide +kernel) ⟨Nat.le_of_ble_eq_true rfl, Nat.le_of_ble_eq_true rfl⟩ hK hP [] rfl rfl hl.1 rfl (Nat.le_of_ble_eq_true rfl) dX4_cutByNearCounts_25 ⟨Nat.zero_le _, Nat.zero_le _⟩ ?_
        refine lv_istore (lv' := [(5, .int r_6), (4, .int r_5), (3, .int x3_2), (0, .ref fo), (1, .ref so), (2, .ref qo)]) (pc := 28) hx hb dX4_cutByNearCounts_28 hl (by decide) rfl (fun ls hl => ?_)
        refine lv_iconst (v := (1 : Int32)) (pc := 30) hx hb dX4_cutByNearCounts_30 (by decide) ?_
        refine lv_istore (lv' := [(6, .int (1 : Int32)), (5, .int r_6), (4, .int r_5), (3, .int x3_2), (0, .ref fo), (1, .ref so), (2, .ref qo)]) (pc := 31) hx hb dX4_cutByNearCounts_31 hl (by decide) rfl (fun ls hl => ?_)
        obtain ⟨qc_12, qf_12, hL13, hz8⟩ := ob2_e hz8
        have ex13 : ∀ (H : Heap) (locs : List Loc) (ls : Array Slot), va_P D vwCl (wX4_cutByNearCounts cI cZ cM cS fo bo bs so sca sna sla sra qo qs bc bf sn sl sfin swk snear qc_12 qf_12) H → va_D A (wX4_cutByNearCounts cI cZ cM cS fo bo bs so sca sna sla sra qo qs bc bf sn sl sfin swk snear qc_12 qf_12) → va_S A s.heap H locs → lv_has ls 7 [(3, .int x3_2), (0, .ref fo), (1, .ref so), (2, .ref qo)] → W p l e (zRm 2 46) s m args below meth c H locs 0 0 Q (F0 m 58 ls []) := by
          intro H locs ls hP hD hS hl
          refine lv_iinc (v := (x3_2 + (1 : Int32))) (lv' := [(3, .int (x3_2 + (1 : Int32))), (0, .ref fo), (1, .ref so), (2, .ref qo)]) (pc := 58) hx hb dX4_cutByNearCounts_58 hl (k := 0) rfl rfl (by decide) rfl (fun ls hl => ?_)
          refine lv_goto (pc := 61) (tgt := 2) hx hb dX4_cutByNearCounts_61 (by decide) ?_
          exact ih _ _ _ _ _ _ (olp_l hz8 hL8) hP hD hS (lv_sub hl [0, 1, 2, 3] rfl)
        have lp13 : ∀ (n : Nat) (x6_4 : Int32) (qc_11 : Int32) (qf_11 : (Nat → Int32)) (H : Heap) (locs : List Loc) (ls : Array Slot), olp (fX4_cutByNearCounts_s33 r_6 r_5 sn sl sfin swk snear) n (x6_4, qc_11, qf_11) = some (qc_12, qf_12) → va_P D vwCl (wX4_cutByNearCounts cI cZ cM cS fo bo bs so sca sna sla sra qo qs bc bf sn sl sfin swk snear qc_11 qf_11) H → va_D A (wX4_cutByNearCounts cI cZ cM cS fo bo bs so sca sna sla sra qo qs bc bf sn sl sfin swk snear qc_11 qf_11) → va_S A s.heap H locs → lv_has ls 7 [(6, .int x6_4), (5, .int r_6), (4, .int r_5), (3, .int x3_2), (0, .ref fo), (1, .ref so), (2, .ref qo)] → W p l e (zRm 2 46) s m args below meth c H locs 0 0 Q (F0 m 33 ls []) := by
          intro n
          induction n with
          | zero => intro x6_4 qc_11 qf_11 H locs ls hL; exact olp_0 hL
          | succ n ih =>
            intro x6_4 qc_11 qf_11 H locs ls hL13 hP hD hS hl
            obtain ⟨z, hz13, hL13⟩ := olp_e hL13
            have hz13 : fX4_cutByNearCounts_b33 r_6 r_5 sn sl sfin swk snear x6_4 qc_11 qf_11 = some z := hz13
            unfold fX4_cutByNearCounts_b33 at hz13
            refine lv_iload (pc := 33) hx hb dX4_cutByNearCounts_33 (lv_at hl 0 rfl) ?_
            refine lv_iload (pc := 35) hx hb dX4_cutByNearCounts_35 (lv_at hl 1 rfl) ?_
            refine lv_icmp_gt (pc := 37) (tgt := 58) hx hb dX4_cutByNearCounts_37 (by decide) (fun hc => ?_) (fun hc => ?_)
            · have hz13 := oif_t hz13 hc
              have hE := olp_r hz13 hL13
              cases hE
              exact ex13 _ _ _ hP hD hS (lv_sub hl [3, 4, 5, 6] rfl)
            · have hz13 := oif_f hz13 hc
              refine lv_aload_n (pc := 40) hx hb dX4_cutByNearCounts_40 rfl (lv_at hl 6 rfl) ?_
              refine lv_aload_n (pc := 41) hx hb dX4_cutByNearCounts_41 rfl (lv_at hl 5 rfl) ?_
              refine lv_iload (pc := 42) hx hb dX4_cutByNearCounts_42 (lv_at hl 2 rfl) ?_
              refine lv_iload (pc := 44) hx hb dX4_cutByNearCounts_44 (lv_at hl 0 rfl) ?_
              obtain ⟨r_8, hC14, hz13⟩ := ob1_e hz13
              refine zVr (pc := 46) (As := [.int r_5, .int x6_4]) (rest := [.ref qo]) E (tX6_itemsWithNearIn l D cI cZ cM cS so sca sna sla sra sn sl sfin swk snear r_5 x6_4 hC14) 2 gX4_cutByNearCounts_X6_itemsWithNearIn rfl rfl rfl (by decide +kernel) ⟨Nat.le_of_ble_eq_true rfl, Nat.le_of_ble_eq_true rfl⟩ hK hP [3, 4] rfl 0 6 rfl rfl rfl rfl hl.1 rfl (Nat.le_of_ble_eq_true rfl) dX4_cutByNearCounts_46 ⟨Nat.zero_le _, Nat.zero_le _⟩ ?_
              obtain ⟨qc_13, qf_13, hC15, hz13⟩ := ob2_e hz13
              refine zV (pc := 49) (As := [.int r_8]) (rest := []) (wr := [(fo, .inr (4, [.ref bo])), (bo, .inr (5, [.ref bs, .int bc])), (bs, .inl (cI, 12, .inl bf)), (so, .inr (6, [.int sn, .int sl, .int sfin, .int swk, .ref sca, .ref sna, .ref sla, .ref sra])), (sna, .inl (cI, 12, .inl snear))]) (w2 := (wX4_cutByNearCounts cI cZ cM cS fo bo bs so sca sna sla sra qo qs bc bf sn sl sfin swk snear qc_13 qf_13)) E (tX5_cutBy l D cI cZ cM cS qo qs qc_11 qf_11 r_8 hC15) 1 gX4_cutByNearCounts_X5_cutBy rfl rfl rfl (by decide +kernel) ⟨Nat.le_of_ble_eq_true rfl, Nat.le_of_ble_eq_true rfl⟩ hK hP hD hS hA [5, 6] [0, 1, 2, 3, 4] [0, 1, 2, 3, 4, 5, 6] (by decide) rfl rfl (by decide) (by decide) rfl (by decide) 0 5 rfl rfl rfl rfl hl.1 rfl (Nat.le_of_ble_eq_true rfl) dX4_cutByNearCounts_49 ⟨Nat.zero_le _, Nat.zero_le _⟩ (fun H locs hP hD hS => ?_)
              refine W.eq (g2 := F0 m 52 ls []) rfl ?_
              refine lv_iinc (v := (x6_4 + (1 : Int32))) (lv' := [(6, .int (x6_4 + (1 : Int32))), (5, .int r_6), (4, .int r_5), (3, .int x3_2), (0, .ref fo), (1, .ref so), (2, .ref qo)]) (pc := 52) hx hb dX4_cutByNearCounts_52 hl (k := 0) rfl rfl (by decide) rfl (fun ls hl => ?_)
              refine lv_goto (pc := 55) (tgt := 33) hx hb dX4_cutByNearCounts_55 (by decide) ?_
              exact ih _ _ _ _ _ _ (olp_l hz13 hL13) hP hD hS (lv_sub hl [0, 1, 2, 3, 4, 5, 6] rfl)
        exact lp13 oFu _ _ _ _ _ _ hL13 hP hD hS (lv_sub hl [0, 1, 2, 3, 4, 5, 6] rfl)
  exact lp8 oFu _ _ _ _ _ _ hL8 hP hD hS (lv_sub hl [0, 1, 2, 3] rfl)
def fX4_cutByAll_b19 (z0_1 : Int32) (p3 : Int32) (sn : Int32) (sl : Int32) (sfin : Int32) (swk : Int32) (scols : (Nat → Int32)) (snear : (Nat → Int32)) (slds : (Nat → Int32)) (x5_2 : Int32) (qc_3 : Int32) (qf_3 : (Nat → Int32)) : Option ((Int32 × Int32 × (Nat → Int32)) ⊕ (Int32 × (Nat → Int32))) := (if z0_1 ≤ x5_2 then (some (.inr (qc_3, qf_3))) else (ob1 (fX6_setOfKind p3 x5_2 (0 : Int32) sn sl sfin swk scols snear slds qc_3 qf_3) (fun r_2 => (ob2 (fX5_cutBy r_2 qc_3 qf_3) (fun qc_5 qf_5 => (some (.inl ((x5_2 + (1 : Int32)), qc_5, qf_5))))))))
def fX4_cutByAll_s19 (z0_1 : Int32) (p3 : Int32) (sn : Int32) (sl : Int32) (sfin : Int32) (swk : Int32) (scols : (Nat → Int32)) (snear : (Nat → Int32)) (slds : (Nat → Int32)) (sg_ : Int32 × Int32 × (Nat → Int32)) : Option ((Int32 × Int32 × (Nat → Int32)) ⊕ (Int32 × (Nat → Int32))) := fX4_cutByAll_b19 z0_1 p3 sn sl sfin swk scols snear slds sg_.1 sg_.2.1 sg_.2.2
def fX4_cutByAll (p3 : Int32) (sn : Int32) (sl : Int32) (sfin : Int32) (swk : Int32) (scols : (Nat → Int32)) (snear : (Nat → Int32)) (slds : (Nat → Int32)) (qc : Int32) (qf : (Nat → Int32)) : Option (Int32 × (Nat → Int32)) := (ob1 (if p3 = (2 : Int32) then (some (8 : Int32)) else (some sn)) (fun z0_1 => (ob2 (olp (fX4_cutByAll_s19 z0_1 p3 sn sl sfin swk scols snear slds) oFu ((0 : Int32), qc, qf)) (fun qc_4 qf_4 => (some (qc_4, qf_4))))))
abbrev wX4_cutByAll (cI cZ cM cS : ClassId) (fo bo so sca sna sla sra qo qs : Nat) (sn : Int32) (sl : Int32) (sfin : Int32) (swk : Int32) (scols : (Nat → Int32)) (snear : (Nat → Int32)) (slds : (Nat → Int32)) (qc : Int32) (qf : (Nat → Int32)) : va_W := [(fo, .inr (4, [.ref bo])), (so, .inr (6, [.int sn, .int sl, .int sfin, .int swk, .ref sca, .ref sna, .ref sla, .ref sra])), (sca, .inl (cI, 12, .inl scols)), (sna, .inl (cI, 12, .inl snear)), (sla, .inl (cI, 36, .inl slds)), (qo, .inr (5, [.ref qs, .int qc])), (qs, .inl (cI, 12, .inl qf))]
set_option maxHeartbeats 4000000 in
set_option maxRecDepth 100000 in
theorem tX4_cutByAll (l : Launch) (D : va_G) (cI cZ cM cS : ClassId) (fo bo so sca sna sla sra qo qs : Nat) (sn : Int32) (sl : Int32) (sfin : Int32) (swk : Int32) (scols : (Nat → Int32)) (snear : (Nat → Int32)) (slds : (Nat → Int32)) (qc : Int32) (qf : (Nat → Int32)) (p3 : Int32) {qc' : Int32} {qf' : (Nat → Int32)} (hF : fX4_cutByAll p3 sn sl sfin swk scols snear slds qc qf = some (qc', qf')) : zCW l yX4_cutByAll wsX4_cutByAll (zRm 4 91) D (zTy cI cZ cM cS) [.ref fo, .ref so, .ref qo, .int p3] (wX4_cutByAll cI cZ cM cS fo bo so sca sna sla sra qo qs sn sl sfin swk scols snear slds qc qf) (wX4_cutByAll cI cZ cM cS fo bo so sca sna sla sra qo qs sn sl sfin swk scols snear slds qc' qf') none := by
  unfold fX4_cutByAll at hF
  refine zCW_ofv (cc := cX4_cutByAll) (maxL := 6) (own := RX4) (by decide) rfl rfl (Nat.le_of_ble_eq_true rfl) (fun p e s m args below meth c Q ls A E hA hK hP hD hRet hS hl => ?_)
  refine zgen (fun H locs hP hS => ?_) hP hS
  have hl : lv_has ls 6 [(0, .ref fo), (1, .ref so), (2, .ref qo), (3, .int p3)] := hl
  obtain ⟨hx, hb, hml, hown, hts⟩ := id E
  have inX6 : ∀ w ∈ u_ws RX6 TX6 8, w ∈ wsX4_cutByAll := by decide +kernel
  have fl36 := hts (.fieldLink RX4 36 "SplitClasses$State" "n" "I") (by decide +kernel)
  refine lv_iload_n (pc := 0) hx hb dX4_cutByAll_0 rfl (lv_at hl 3 rfl) ?_
  refine lv_iconst (v := (2 : Int32)) (pc := 1) hx hb dX4_cutByAll_1 (by decide) ?_
  obtain ⟨z0_1, hM1, hF⟩ := ob1_e hF
  have jn1 : ∀ (H : Heap) (locs : List Loc) (ls : Array Slot), va_P D vwCl (wX4_cutByAll cI cZ cM cS fo bo so sca sna sla sra qo qs sn sl sfin swk scols snear slds qc qf) H → va_D A (wX4_cutByAll cI cZ cM cS fo bo so sca sna sla sra qo qs sn sl sfin swk scols snear slds qc qf) → va_S A s.heap H locs → lv_has ls 6 [(1, .ref so), (2, .ref qo), (3, .int p3)] → W p l e (zRm 4 91) s m args below meth c H locs 0 0 Q (F0 m 14 ls [.int z0_1]) := by
    intro H locs ls hP hD hS hl
    refine lv_istore (lv' := [(4, .int z0_1), (1, .ref so), (2, .ref qo), (3, .int p3)]) (pc := 14) hx hb dX4_cutByAll_14 hl (by decide) rfl (fun ls hl => ?_)
    refine lv_iconst (v := (0 : Int32)) (pc := 16) hx hb dX4_cutByAll_16 (by decide) ?_
    refine lv_istore (lv' := [(5, .int (0 : Int32)), (4, .int z0_1), (1, .ref so), (2, .ref qo), (3, .int p3)]) (pc := 17) hx hb dX4_cutByAll_17 hl (by decide) rfl (fun ls hl => ?_)
    obtain ⟨qc_4, qf_4, hL4, hF⟩ := ob2_e hF
    have ex4 : ∀ (H : Heap) (locs : List Loc) (ls : Array Slot), va_P D vwCl (wX4_cutByAll cI cZ cM cS fo bo so sca sna sla sra qo qs sn sl sfin swk scols snear slds qc_4 qf_4) H → va_D A (wX4_cutByAll cI cZ cM cS fo bo so sca sna sla sra qo qs sn sl sfin swk scols snear slds qc_4 qf_4) → va_S A s.heap H locs → lv_has ls 6 [] → W p l e (zRm 4 91) s m args below meth c H locs 0 0 Q (F0 m 45 ls []) := by
      intro H locs ls hP hD hS hl
      cases hF
      exact hRet _ _ _ _ dX4_cutByAll_45 hP hD hS
    have lp4 : ∀ (n : Nat) (x5_2 : Int32) (qc_3 : Int32) (qf_3 : (Nat → Int32)) (H : Heap) (locs : List Loc) (ls : Array Slot), olp (fX4_cutByAll_s19 z0_1 p3 sn sl sfin swk scols snear slds) n (x5_2, qc_3, qf_3) = some (qc_4, qf_4) → va_P D vwCl (wX4_cutByAll cI cZ cM cS fo bo so sca sna sla sra qo qs sn sl sfin swk scols snear slds qc_3 qf_3) H → va_D A (wX4_cutByAll cI cZ cM cS fo bo so sca sna sla sra qo qs sn sl sfin swk scols snear slds qc_3 qf_3) → va_S A s.heap H locs → lv_has ls 6 [(5, .int x5_2), (4, .int z0_1), (1, .ref so), (2, .ref qo), (3, .int p3)] → W p l e (zRm 4 91) s m args below meth c H locs 0 0 Q (F0 m 19 ls []) := by
      intro n
      induction n with
      | zero => intro x5_2 qc_3 qf_3 H locs ls hL; exact olp_0 hL
      | succ n ih =>
        intro x5_2 qc_3 qf_3 H locs ls hL4 hP hD hS hl
        obtain ⟨z, hz4, hL4⟩ := olp_e hL4
        have hz4 : fX4_cutByAll_b19 z0_1 p3 sn sl sfin swk scols snear slds x5_2 qc_3 qf_3 = some z := hz4
        unfold fX4_cutByAll_b19 at hz4
        refine lv_iload (pc := 19) hx hb dX4_cutByAll_19 (lv_at hl 0 rfl) ?_
        refine lv_iload (pc := 21) hx hb dX4_cutByAll_21 (lv_at hl 1 rfl) ?_
        refine lv_icmp_ge (pc := 23) (tgt := 45) hx hb dX4_cutByAll_23 (by decide) (fun hc => ?_) (fun hc => ?_)
        · have hz4 := oif_t hz4 hc
          have hE := olp_r hz4 hL4
          cases hE
          exact ex4 _ _ _ hP hD hS (lv_sub hl [] rfl)
        · have hz4 := oif_f hz4 hc
          refine lv_aload_n (pc := 26) hx hb dX4_cutByAll_26 rfl (lv_at hl 3 rfl) ?_
          refine lv_aload_n (pc := 27) hx hb dX4_cutByAll_27 rfl (lv_at hl 2 rfl) ?_
          refine lv_aload_n (pc := 28) hx hb dX4_cutByAll_28 rfl (lv_at hl 3 rfl) ?_
          refine lv_iload_n (pc := 29) hx hb dX4_cutByAll_29 rfl (lv_at hl 4 rfl) ?_
          refine lv_iload (pc := 30) hx hb dX4_cutByAll_30 (lv_at hl 0 rfl) ?_
          refine lv_iconst (v := (0 : Int32)) (pc := 32) hx hb dX4_cutByAll_32 (by decide) ?_
          obtain ⟨r_2, hC5, hz4⟩ := ob1_e hz4
          refine zVr (pc := 33) (As := [.ref qo, .int p3, .int x5_2, .int (0 : Int32)]) (rest := [.ref qo]) E (tX6_setOfKind l D cI cZ cM cS so sca sna sla sra qo qs sn sl sfin swk scols snear slds qc_3 qf_3 p3 x5_2 (0 : Int32) hC5) 4 gX4_cutByAll_X6_setOfKind rfl rfl rfl (by decide +kernel) ⟨Nat.le_of_ble_eq_true rfl, Nat.le_of_ble_eq_true rfl⟩ hK hP [1, 2, 3, 4, 5, 6] rfl 0 6 rfl rfl rfl rfl hl.1 rfl (Nat.le_of_ble_eq_true rfl) dX4_cutByAll_33 ⟨Nat.zero_le _, Nat.zero_le _⟩ ?_
          obtain ⟨qc_5, qf_5, hC6, hz4⟩ := ob2_e hz4
          refine zV (pc := 36) (As := [.int r_2]) (rest := []) (wr := [(fo, .inr (4, [.ref bo])), (so, .inr (6, [.int sn, .int sl, .int sfin, .int swk, .ref sca, .ref sna, .ref sla, .ref sra])), (sca, .inl (cI, 12, .inl scols)), (sna, .inl (cI, 12, .inl snear)), (sla, .inl (cI, 36, .inl slds))]) (w2 := (wX4_cutByAll cI cZ cM cS fo bo so sca sna sla sra qo qs sn sl sfin swk scols snear slds qc_5 qf_5)) E (tX5_cutBy l D cI cZ cM cS qo qs qc_3 qf_3 r_2 hC6) 1 gX4_cutByAll_X5_cutBy rfl rfl rfl (by decide +kernel) ⟨Nat.le_of_ble_eq_true rfl, Nat.le_of_ble_eq_true rfl⟩ hK hP hD hS hA [5, 6] [0, 1, 2, 3, 4] [0, 1, 2, 3, 4, 5, 6] (by decide) rfl rfl (by decide) (by decide) rfl (by decide) 0 5 rfl rfl rfl rfl hl.1 rfl (Nat.le_of_ble_eq_true rfl) dX4_cutByAll_36 ⟨Nat.zero_le _, Nat.zero_le _⟩ (fun H locs hP hD hS => ?_)
          refine W.eq (g2 := F0 m 39 ls []) rfl ?_
          refine lv_iinc (v := (x5_2 + (1 : Int32))) (lv' := [(5, .int (x5_2 + (1 : Int32))), (4, .int z0_1), (1, .ref so), (2, .ref qo), (3, .int p3)]) (pc := 39) hx hb dX4_cutByAll_39 hl (k := 0) rfl rfl (by decide) rfl (fun ls hl => ?_)
          refine lv_goto (pc := 42) (tgt := 19) hx hb dX4_cutByAll_42 (by decide) ?_
          exact ih _ _ _ _ _ _ (olp_l hz4 hL4) hP hD hS (lv_sub hl [0, 1, 2, 3, 4] rfl)
    exact lp4 oFu _ _ _ _ _ _ hL4 hP hD hS (lv_sub hl [0, 1, 2, 3, 4] rfl)
  refine lv_icmp_ne (pc := 2) (tgt := 10) hx hb dX4_cutByAll_2 (by decide) (fun hc => ?_) (fun hc => ?_)
  · have hM1 := oif_f hM1 hc
    refine lv_aload_n (pc := 10) hx hb dX4_cutByAll_10 rfl (lv_at hl 1 rfl) ?_
    refine va_get (pc := 11) (ci := 6) (C := RX6) (T := TX6) (N := 8) hx hb hts inX6 hown hK hP 1 rfl rfl 0 (by decide) fl36 (fun _ h9 => h9) rfl dX4_cutByAll_11 ?_
    cases hM1
    exact jn1 _ _ _ hP hD hS (lv_sub hl [1, 2, 3] rfl)
  · have hM1 := oif_t hM1 hc
    refine lv_bipush (v := (8 : Int32)) (pc := 5) hx hb dX4_cutByAll_5 (by decide) ?_
    refine lv_goto (pc := 7) (tgt := 14) hx hb dX4_cutByAll_7 (by decide) ?_
    cases hM1
    exact jn1 _ _ _ hP hD hS (lv_sub hl [1, 2, 3] rfl)
def fX4_settle_b3 (p3 : Int32) (sn : Int32) (sl : Int32) (sfin : Int32) (swk : Int32) (snear : (Nat → Int32)) (slds : (Nat → Int32)) (x4_2 : Int32) (bc_3 : Int32) (bf_3 : (Nat → Int32)) (qc_5 : Int32) (qf_7 : (Nat → Int32)) : Option ((Int32 × Int32 × (Nat → Int32) × Int32 × (Nat → Int32)) ⊕ (Int32 × (Nat → Int32) × Int32 × (Nat → Int32))) := (if (12 : Int32) ≤ x4_2 then (ob1 (fX5_sortByLeast qc_5 qf_7) (fun qf_8 => (some (.inr (bc_3, bf_3, qc_5, qf_8))))) else (ob2 (fX5_copyFrom bc_3 bf_3 qc_5 qf_7) (fun bc_4 bf_4 => (ob2 (if p3 = (0 : Int32) then (ob2 (fX4_cutByNearCounts bc_4 bf_4 sn sl sfin swk snear qc_5 qf_7) (fun qc_9 qf_13 => (some (qc_9, qf_13)))) else (ob2 (fX4_cutByLetters bc_4 bf_4 sn sl sfin swk slds qc_5 qf_7) (fun qc_10 qf_14 => (some (qc_10, qf_14))))) (fun qc_8 qf_11 => (if qc_8 = bc_4 then (ob1 (fX5_sortByLeast qc_8 qf_11) (fun qf_12 => (some (.inr (bc_4, bf_4, qc_8, qf_12))))) else (some (.inl ((x4_2 + (1 : Int32)), bc_4, bf_4, qc_8, qf_11)))))))))
def fX4_settle_s3 (p3 : Int32) (sn : Int32) (sl : Int32) (sfin : Int32) (swk : Int32) (snear : (Nat → Int32)) (slds : (Nat → Int32)) (sg_ : Int32 × Int32 × (Nat → Int32) × Int32 × (Nat → Int32)) : Option ((Int32 × Int32 × (Nat → Int32) × Int32 × (Nat → Int32)) ⊕ (Int32 × (Nat → Int32) × Int32 × (Nat → Int32))) := fX4_settle_b3 p3 sn sl sfin swk snear slds sg_.1 sg_.2.1 sg_.2.2.1 sg_.2.2.2.1 sg_.2.2.2.2
def fX4_settle (p3 : Int32) (bc : Int32) (bf : (Nat → Int32)) (sn : Int32) (sl : Int32) (sfin : Int32) (swk : Int32) (scols : (Nat → Int32)) (snear : (Nat → Int32)) (slds : (Nat → Int32)) (qc : Int32) (qf : (Nat → Int32)) : Option (Int32 × (Nat → Int32) × Int32 × (Nat → Int32)) := (olp (fX4_settle_s3 p3 sn sl sfin swk snear slds) oFu ((0 : Int32), bc, bf, qc, qf))
abbrev wX4_settle (cI cZ cM cS : ClassId) (fo bo bs so sca sna sla sra qo qs : Nat) (bc : Int32) (bf : (Nat → Int32)) (sn : Int32) (sl : Int32) (sfin : Int32) (swk : Int32) (scols : (Nat → Int32)) (snear : (Nat → Int32)) (slds : (Nat → Int32)) (qc : Int32) (qf : (Nat → Int32)) : va_W := [(fo, .inr (4, [.ref bo])), (bo, .inr (5, [.ref bs, .int bc])), (bs, .inl (cI, 12, .inl bf)), (so, .inr (6, [.int sn, .int sl, .int sfin, .int swk, .ref sca, .ref sna, .ref sla, .ref sra])), (sca, .inl (cI, 12, .inl scols)), (sna, .inl (cI, 12, .inl snear)), (sla, .inl (cI, 36, .inl slds)), (qo, .inr (5, [.ref qs, .int qc])), (qs, .inl (cI, 12, .inl qf))]
set_option maxHeartbeats 4000000 in
set_option maxRecDepth 100000 in
theorem tX4_settle (l : Launch) (D : va_G) (cI cZ cM cS : ClassId) (fo bo bs so sca sna sla sra qo qs : Nat) (bc : Int32) (bf : (Nat → Int32)) (sn : Int32) (sl : Int32) (sfin : Int32) (swk : Int32) (scols : (Nat → Int32)) (snear : (Nat → Int32)) (slds : (Nat → Int32)) (qc : Int32) (qf : (Nat → Int32)) (p3 : Int32) {bc' : Int32} {bf' : (Nat → Int32)} {qc' : Int32} {qf' : (Nat → Int32)} (hF : fX4_settle p3 bc bf sn sl sfin swk scols snear slds qc qf = some (bc', bf', qc', qf')) : zCW l yX4_settle wsX4_settle (zRm 4 91) D (zTy cI cZ cM cS) [.ref fo, .ref so, .ref qo, .int p3] (wX4_settle cI cZ cM cS fo bo bs so sca sna sla sra qo qs bc bf sn sl sfin swk scols snear slds qc qf) (wX4_settle cI cZ cM cS fo bo bs so sca sna sla sra qo qs bc' bf' sn sl sfin swk scols snear slds qc' qf') none := by
  unfold fX4_settle at hF
  refine zCW_ofv (cc := cX4_settle) (maxL := 5) (own := RX4) (by decide) rfl rfl (Nat.le_of_ble_eq_true rfl) (fun p e s m args below meth c Q ls A E hA hK hP hD hRet hS hl => ?_)
  refine zgen (fun H locs hP hS => ?_) hP hS
  have hl : lv_has ls 5 [(0, .ref fo), (1, .ref so), (2, .ref qo), (3, .int p3)] := hl
  obtain ⟨hx, hb, hml, hown, hts⟩ := id E
  have inX4 : ∀ w ∈ u_ws RX4 TX4 1, w ∈ wsX4_settle := by decide +kernel
  have inX5 : ∀ w ∈ u_ws RX5 TX5 2, w ∈ wsX4_settle := by decide +kernel
  have fl12 := hts (.fieldLink RX4 12 "SplitClasses$Refiner" "before" "LSplitClasses$Row;") (by decide +kernel)
  have fl54 := hts (.fieldLink RX4 54 "SplitClasses$Row" "count" "I") (by decide +kernel)
  refine lv_iconst (v := (0 : Int32)) (pc := 0) hx hb dX4_settle_0 (by decide) ?_
  refine lv_istore (lv' := [(4, .int (0 : Int32)), (0, .ref fo), (1, .ref so), (2, .ref qo), (3, .int p3)]) (pc := 1) hx hb dX4_settle_1 hl (by decide) rfl (fun ls hl => ?_)
  have hL7 := hF
  have lp7 : ∀ (n : Nat) (x4_2 : Int32) (bc_3 : Int32) (bf_3 : (Nat → Int32)) (qc_5 : Int32) (qf_7 : (Nat → Int32)) (H : Heap) (locs : List Loc) (ls : Array Slot), olp (fX4_settle_s3 p3 sn sl sfin swk snear slds) n (x4_2, bc_3, bf_3, qc_5, qf_7) = some (bc', bf', qc', qf') → va_P D vwCl (wX4_settle cI cZ cM cS fo bo bs so sca sna sla sra qo qs bc_3 bf_3 sn sl sfin swk scols snear slds qc_5 qf_7) H → va_D A (wX4_settle cI cZ cM cS fo bo bs so sca sna sla sra qo qs bc_3 bf_3 sn sl sfin swk scols snear slds qc_5 qf_7) → va_S A s.heap H locs → lv_has ls 5 [(4, .int x4_2), (0, .ref fo), (1, .ref so), (2, .ref qo), (3, .int p3)] → W p l e (zRm 4 91) s m args below meth c H locs 0 0 Q (F0 m 3 ls []) := by
    intro n
    induction n with
    | zero => intro x4_2 bc_3 bf_3 qc_5 qf_7 H locs ls hL; exact olp_0 hL
    | succ n ih =>
      intro x4_2 bc_3 bf_3 qc_5 qf_7 H locs ls hL7 hP hD hS hl
      obtain ⟨z, hz7, hL7⟩ := olp_e hL7
      have hz7 : fX4_settle_b3 p3 sn sl sfin swk snear slds x4_2 bc_3 bf_3 qc_5 qf_7 = some z := hz7
      unfold fX4_settle_b3 at hz7
      refine lv_iload (pc := 3) hx hb dX4_settle_3 (lv_at hl 0 rfl) ?_
      refine lv_bipush (v := (12 : Int32)) (pc := 5) hx hb dX4_settle_5 (by decide) ?_
      refine lv_icmp_ge (pc := 7) (tgt := 60) hx hb dX4_settle_7 (by decide) (fun hc => ?_) (fun hc => ?_)
      · have hz7 := oif_t hz7 hc
        refine lv_aload_n (pc := 60) hx hb dX4_settle_60 rfl (lv_at hl 3 rfl) ?_
        obtain ⟨qf_8, hC8, hz7⟩ := ob1_e hz7
        refine zV (pc := 61) (As := []) (rest := []) (wr := [(fo, .inr (4, [.ref bo])), (bo, .inr (5, [.ref bs, .int bc_3])), (bs, .inl (cI, 12, .inl bf_3)), (so, .inr (6, [.int sn, .int sl, .int sfin, .int swk, .ref sca, .ref sna, .ref sla, .ref sra])), (sca, .inl (cI, 12, .inl scols)), (sna, .inl (cI, 12, .inl snear)), (sla, .inl (cI, 36, .inl slds))]) (w2 := (wX4_settle cI cZ cM cS fo bo bs so sca sna sla sra qo qs bc_3 bf_3 sn sl sfin swk scols snear slds qc_5 qf_8)) E (tX5_sortByLeast l D cI cZ cM cS qo qs qc_5 qf_7 hC8) 0 gX4_settle_X5_sortByLeast rfl rfl rfl (by decide +kernel) ⟨Nat.le_of_ble_eq_true rfl, Nat.le_of_ble_eq_true rfl⟩ hK hP hD hS hA [7, 8] [0, 1, 2, 3, 4, 5, 6] [0, 1, 2, 3, 4, 5, 6, 7, 8] (by decide) rfl rfl (by decide) (by decide) rfl (by decide) 0 5 rfl rfl rfl rfl hl.1 rfl (Nat.le_of_ble_eq_true rfl) dX4_settle_61 ⟨Nat.zero_le _, Nat.zero_le _⟩ (fun H locs hP hD hS => ?_)
        refine W.eq (g2 := F0 m 64 ls []) rfl ?_
        have hE := olp_r hz7 hL7
        cases hE
        exact hRet _ _ _ _ dX4_settle_64 hP hD hS
      · have hz7 := oif_f hz7 hc
        refine lv_aload_n (pc := 10) hx hb dX4_settle_10 rfl (lv_at hl 1 rfl) ?_
        refine va_get (pc := 11) (ci := 4) (C := RX4) (T := TX4) (N := 1) hx hb hts inX4 hown hK hP 0 rfl rfl 0 (by decide) fl12 (fun _ h9 => h9) rfl dX4_settle_11 ?_
        refine lv_aload_n (pc := 14) hx hb dX4_settle_14 rfl (lv_at hl 3 rfl) ?_
        obtain ⟨bc_4, bf_4, hC9, hz7⟩ := ob2_e hz7
        refine zV (pc := 15) (As := [.ref qo]) (rest := []) (wr := [(fo, .inr (4, [.ref bo])), (so, .inr (6, [.int sn, .int sl, .int sfin, .int swk, .ref sca, .ref sna, .ref sla, .ref sra])), (sca, .inl (cI, 12, .inl scols)), (sna, .inl (cI, 12, .inl snear)), (sla, .inl (cI, 36, .inl slds))]) (w2 := (wX4_settle cI cZ cM cS fo bo bs so sca sna sla sra qo qs bc_4 bf_4 sn sl sfin swk scols snear slds qc_5 qf_7)) E (tX5_copyFrom l D cI cZ cM cS bo bs qo qs bc_3 bf_3 qc_5 qf_7 hC9) 1 gX4_settle_X5_copyFrom rfl rfl rfl (by decide +kernel) ⟨Nat.le_of_ble_eq_true rfl, Nat.le_of_ble_eq_true rfl⟩ hK hP hD hS hA [1, 2, 7, 8] [0, 3, 4, 5, 6] [0, 5, 6, 1, 2, 3, 4, 7, 8] (by decide) rfl rfl (by decide) (by decide) rfl (by decide) 0 5 rfl rfl rfl rfl hl.1 rfl (Nat.le_of_ble_eq_true rfl) dX4_settle_15 ⟨Nat.zero_le _, Nat.zero_le _⟩ (fun H locs hP hD hS => ?_)
        refine W.eq (g2 := F0 m 18 ls []) rfl ?_
        refine lv_iload_n (pc := 18) hx hb dX4_settle_18 rfl (lv_at hl 4 rfl) ?_
        obtain ⟨qc_8, qf_11, hM12, hz7⟩ := ob2_e hz7
        have jn12 : ∀ (H : Heap) (locs : List Loc) (ls : Array Slot), va_P D vwCl (wX4_settle cI cZ cM cS fo bo bs so sca sna sla sra qo qs bc_4 bf_4 sn sl sfin swk scols snear slds qc_8 qf_11) H → va_D A (wX4_settle cI cZ cM cS fo bo bs so sca sna sla sra qo qs bc_4 bf_4 sn sl sfin swk scols snear slds qc_8 qf_11) → va_S A s.heap H locs → lv_has ls 5 [(4, .int x4_2), (0, .ref fo), (1, .ref so), (2, .ref qo), (3, .int p3)] → W p l e (zRm 4 91) s m args below meth c H locs 0 0 Q (F0 m 37 ls []) := by
          intro H locs ls hP hD hS hl
          refine lv_aload_n (pc := 37) hx hb dX4_settle_37 rfl (lv_at hl 3 rfl) ?_
          refine va_get (pc := 38) (ci := 5) (C := RX5) (T := TX5) (N := 2) hx hb hts inX5 hown hK hP 7 rfl rfl 1 (by decide) fl54 (fun _ h9 => h9) rfl dX4_settle_38 ?_
          refine lv_aload_n (pc := 41) hx hb dX4_settle_41 rfl (lv_at hl 1 rfl) ?_
          refine va_get (pc := 42) (ci := 4) (C := RX4) (T := TX4) (N := 1) hx hb hts inX4 hown hK hP 0 rfl rfl 0 (by decide) fl12 (fun _ h9 => h9) rfl dX4_settle_42 ?_
          refine va_get (pc := 45) (ci := 5) (C := RX5) (T := TX5) (N := 2) hx hb hts inX5 hown hK hP 1 rfl rfl 1 (by decide) fl54 (fun _ h9 => h9) rfl dX4_settle_45 ?_
          refine lv_icmp_ne (pc := 48) (tgt := 54) hx hb dX4_settle_48 (by decide) (fun hc => ?_) (fun hc => ?_)
          · have hz7 := oif_f hz7 hc
            refine lv_iinc (v := (x4_2 + (1 : Int32))) (lv' := [(4, .int (x4_2 + (1 : Int32))), (0, .ref fo), (1, .ref so), (2, .ref qo), (3, .int p3)]) (pc := 54) hx hb dX4_settle_54 hl (k := 0) rfl rfl (by decide) rfl (fun ls hl => ?_)
            refine lv_goto (pc := 57) (tgt := 3) hx hb dX4_settle_57 (by decide) ?_
            exact ih _ _ _ _ _ _ _ _ (olp_l hz7 hL7) hP hD hS (lv_sub hl [0, 1, 2, 3, 4] rfl)
          · have hz7 := oif_t hz7 hc
            refine lv_goto (pc := 51) (tgt := 60) hx hb dX4_settle_51 (by decide) ?_
            refine lv_aload_n (pc := 60) hx hb dX4_settle_60 rfl (lv_at hl 3 rfl) ?_
            obtain ⟨qf_12, hC13, hz7⟩ := ob1_e hz7
            refine zV (pc := 61) (As := []) (rest := []) (wr := [(fo, .inr (4, [.ref bo])), (bo, .inr (5, [.ref bs, .int bc_4])), (bs, .inl (cI, 12, .inl bf_4)), (so, .inr (6, [.int sn, .int sl, .int sfin, .int swk, .ref sca, .ref sna, .ref sla, .ref sra])), (sca, .inl (cI, 12, .inl scols)), (sna, .inl (cI, 12, .inl snear)), (sla, .inl (cI, 36, .inl slds))]) (w2 := (wX4_settle cI cZ cM cS fo bo bs so sca sna sla sra qo qs bc_4 bf_4 sn sl sfin swk scols snear slds qc_8 qf_12)) E (tX5_sortByLeast l D cI cZ cM cS qo qs qc_8 qf_11 hC13) 0 gX4_settle_X5_sortByLeast rfl rfl rfl (by decide +kernel) ⟨Nat.le_of_ble_eq_true rfl, Nat.le_of_ble_eq_true rfl⟩ hK hP hD hS hA [7, 8] [0, 1, 2, 3, 4, 5, 6] [0, 1, 2, 3, 4, 5, 6, 7, 8] (by decide) rfl rfl (by decide) (by decide) rfl (by decide) 0 5 rfl rfl rfl rfl hl.1 rfl (Nat.le_of_ble_eq_true rfl) dX4_settle_61 ⟨Nat.zero_le _, Nat.zero_le _⟩ (fun H locs hP hD hS => ?_)
            refine W.eq (g2 := F0 m 64 ls []) rfl ?_
            have hE := olp_r hz7 hL7
            cases hE
            exact hRet _ _ _ _ dX4_settle_64 hP hD hS
        refine lv_if_eq (pc := 19) (tgt := 31) hx hb dX4_settle_19 (by decide) (fun hc => ?_) (fun hc => ?_)
        · have hM12 := oif_t hM12 hc
          refine lv_aload_n (pc := 31) hx hb dX4_settle_31 rfl (lv_at hl 1 rfl) ?_
          refine lv_aload_n (pc := 32) hx hb dX4_settle_32 rfl (lv_at hl 2 rfl) ?_
          refine lv_aload_n (pc := 33) hx hb dX4_settle_33 rfl (lv_at hl 3 rfl) ?_
          obtain ⟨qc_9, qf_13, hC14, hM12⟩ := ob2_e hM12
          refine zV (pc := 34) (As := [.ref so, .ref qo]) (rest := []) (wr := [(sca, .inl (cI, 12, .inl scols)), (sla, .inl (cI, 36, .inl slds))]) (w2 := (wX4_settle cI cZ cM cS fo bo bs so sca sna sla sra qo qs bc_4 bf_4 sn sl sfin swk scols snear slds qc_9 qf_13)) E (tX4_cutByNearCounts l D cI cZ cM cS fo bo bs so sca sna sla sra qo qs bc_4 bf_4 sn sl sfin swk snear qc_5 qf_7 hC14) 2 gX4_settle_X4_cutByNearCounts rfl rfl rfl (by decide +kernel) ⟨Nat.le_of_ble_eq_true rfl, Nat.le_of_ble_eq_true rfl⟩ hK hP hD hS hA [0, 1, 2, 3, 5, 7, 8] [4, 6] [2, 3, 4, 5, 0, 6, 1, 7, 8] (by decide) rfl rfl (by decide) (by decide) rfl (by decide) 0 4 rfl rfl rfl rfl hl.1 rfl (Nat.le_of_ble_eq_true rfl) dX4_settle_34 ⟨Nat.zero_le _, Nat.zero_le _⟩ (fun H locs hP hD hS => ?_)
          refine W.eq (g2 := F0 m 37 ls []) rfl ?_
          cases hM12
          exact jn12 _ _ _ hP hD hS (lv_sub hl [0, 1, 2, 3, 4] rfl)
        · have hM12 := oif_f hM12 hc
          refine lv_aload_n (pc := 22) hx hb dX4_settle_22 rfl (lv_at hl 1 rfl) ?_
          refine lv_aload_n (pc := 23) hx hb dX4_settle_23 rfl (lv_at hl 2 rfl) ?_
          refine lv_aload_n (pc := 24) hx hb dX4_settle_24 rfl (lv_at hl 3 rfl) ?_
          obtain ⟨qc_10, qf_14, hC15, hM12⟩ := ob2_e hM12
          refine zV (pc := 25) (As := [.ref so, .ref qo]) (rest := []) (wr := [(sca, .inl (cI, 12, .inl scols)), (sna, .inl (cI, 12, .inl snear))]) (w2 := (wX4_settle cI cZ cM cS fo bo bs so sca sna sla sra qo qs bc_4 bf_4 sn sl sfin swk scols snear slds qc_10 qf_14)) E (tX4_cutByLetters l D cI cZ cM cS fo bo bs so sca sna sla sra qo qs bc_4 bf_4 sn sl sfin swk slds qc_5 qf_7 hC15) 2 gX4_settle_X4_cutByLetters rfl rfl rfl (by decide +kernel) ⟨Nat.le_of_ble_eq_true rfl, Nat.le_of_ble_eq_true rfl⟩ hK hP hD hS hA [0, 1, 2, 3, 6, 7, 8] [4, 5] [2, 3, 4, 5, 0, 1, 6, 7, 8] (by decide) rfl rfl (by decide) (by decide) rfl (by decide) 0 4 rfl rfl rfl rfl hl.1 rfl (Nat.le_of_ble_eq_true rfl) dX4_settle_25 ⟨Nat.zero_le _, Nat.zero_le _⟩ (fun H locs hP hD hS => ?_)
          refine W.eq (g2 := F0 m 28 ls []) rfl ?_
          refine lv_goto (pc := 28) (tgt := 37) hx hb dX4_settle_28 (by decide) ?_
          cases hM12
          exact jn12 _ _ _ hP hD hS (lv_sub hl [0, 1, 2, 3, 4] rfl)
  exact lp7 oFu _ _ _ _ _ _ _ _ hL7 hP hD hS (lv_sub hl [0, 1, 2, 3, 4] rfl)
def fX4_refineRow (p3 : Int32) (bc : Int32) (bf : (Nat → Int32)) (sn : Int32) (sl : Int32) (sfin : Int32) (swk : Int32) (scols : (Nat → Int32)) (snear : (Nat → Int32)) (slds : (Nat → Int32)) (qc : Int32) (qf : (Nat → Int32)) : Option (Int32 × (Nat → Int32) × Int32 × (Nat → Int32)) := (if p3 = (3 : Int32) then (ob2 (fX5_cutBy sfin qc qf) (fun qc_1 qf_1 => (ob4 (fX4_settle (1 : Int32) bc bf sn sl sfin swk scols snear slds qc_1 qf_1) (fun bc_1 bf_1 qc_2 qf_2 => (some (bc_1, bf_1, qc_2, qf_2)))))) else (if p3 = (4 : Int32) then (ob4 (fX4_settle (0 : Int32) bc bf sn sl sfin swk scols snear slds qc qf) (fun bc_2 bf_2 qc_3 qf_3 => (some (bc_2, bf_2, qc_3, qf_3)))) else (ob2 (fX4_cutByAll p3 sn sl sfin swk scols snear slds qc qf) (fun qc_4 qf_4 => (some (bc, bf, qc_4, qf_4))))))
abbrev wX4_refineRow (cI cZ cM cS : ClassId) (fo bo bs so sca sna sla sra qo qs : Nat) (bc : Int32) (bf : (Nat → Int32)) (sn : Int32) (sl : Int32) (sfin : Int32) (swk : Int32) (scols : (Nat → Int32)) (snear : (Nat → Int32)) (slds : (Nat → Int32)) (qc : Int32) (qf : (Nat → Int32)) : va_W := [(fo, .inr (4, [.ref bo])), (bo, .inr (5, [.ref bs, .int bc])), (bs, .inl (cI, 12, .inl bf)), (so, .inr (6, [.int sn, .int sl, .int sfin, .int swk, .ref sca, .ref sna, .ref sla, .ref sra])), (sca, .inl (cI, 12, .inl scols)), (sna, .inl (cI, 12, .inl snear)), (sla, .inl (cI, 36, .inl slds)), (qo, .inr (5, [.ref qs, .int qc])), (qs, .inl (cI, 12, .inl qf))]
set_option maxHeartbeats 4000000 in
set_option maxRecDepth 100000 in
theorem tX4_refineRow (l : Launch) (D : va_G) (cI cZ cM cS : ClassId) (fo bo bs so sca sna sla sra qo qs : Nat) (bc : Int32) (bf : (Nat → Int32)) (sn : Int32) (sl : Int32) (sfin : Int32) (swk : Int32) (scols : (Nat → Int32)) (snear : (Nat → Int32)) (slds : (Nat → Int32)) (qc : Int32) (qf : (Nat → Int32)) (p3 : Int32) {bc' : Int32} {bf' : (Nat → Int32)} {qc' : Int32} {qf' : (Nat → Int32)} (hF : fX4_refineRow p3 bc bf sn sl sfin swk scols snear slds qc qf = some (bc', bf', qc', qf')) : zCW l yX4_refineRow wsX4_refineRow (zRm 5 116) D (zTy cI cZ cM cS) [.ref fo, .ref so, .ref qo, .int p3] (wX4_refineRow cI cZ cM cS fo bo bs so sca sna sla sra qo qs bc bf sn sl sfin swk scols snear slds qc qf) (wX4_refineRow cI cZ cM cS fo bo bs so sca sna sla sra qo qs bc' bf' sn sl sfin swk scols snear slds qc' qf') none := by
  unfold fX4_refineRow at hF
  refine zCW_ofv (cc := cX4_refineRow) (maxL := 4) (own := RX4) (by decide) rfl rfl (Nat.le_of_ble_eq_true rfl) (fun p e s m args below meth c Q ls A E hA hK hP hD hRet hS hl => ?_)
  refine zgen (fun H locs hP hS => ?_) hP hS
  have hl : lv_has ls 4 [(0, .ref fo), (1, .ref so), (2, .ref qo), (3, .int p3)] := hl
  obtain ⟨hx, hb, hml, hown, hts⟩ := id E
  have inX6 : ∀ w ∈ u_ws RX6 TX6 8, w ∈ wsX4_refineRow := by decide +kernel
  have fl18 := hts (.fieldLink RX4 18 "SplitClasses$State" "finalSet" "I") (by decide +kernel)
  refine lv_iload_n (pc := 0) hx hb dX4_refineRow_0 rfl (lv_at hl 3 rfl) ?_
  refine lv_topi (fun xs exs => ?_)
  by_cases hk10100 : p3 = (3 : Int32)
  · have hF := oif_t hF hk10100
    rw [hk10100] at exs
    rw [exs]
    refine lv_lookup (pc := 1) (tgt := 28) hx hb dX4_refineRow_1 (by decide) rfl (by decide) ?_
    refine lv_aload_n (pc := 28) hx hb dX4_refineRow_28 rfl (lv_at hl 2 rfl) ?_
    refine lv_aload_n (pc := 29) hx hb dX4_refineRow_29 rfl (lv_at hl 1 rfl) ?_
    refine va_get (pc := 30) (ci := 6) (C := RX6) (T := TX6) (N := 8) hx hb hts inX6 hown hK hP 3 rfl rfl 2 (by decide) fl18 (fun _ h9 => h9) rfl dX4_refineRow_30 ?_
    obtain ⟨qc_1, qf_1, hC1, hF⟩ := ob2_e hF
    refine zV (pc := 33) (As := [.int sfin]) (rest := []) (wr := [(fo, .inr (4, [.ref bo])), (bo, .inr (5, [.ref bs, .int bc])), (bs, .inl (cI, 12, .inl bf)), (so, .inr (6, [.int sn, .int sl, .int sfin, .int swk, .ref sca, .ref sna, .ref sla, .ref sra])), (sca, .inl (cI, 12, .inl scols)), (sna, .inl (cI, 12, .inl snear)), (sla, .inl (cI, 36, .inl slds))]) (w2 := (wX4_refineRow cI cZ cM cS fo bo bs so sca sna sla sra qo qs bc bf sn sl sfin swk scols snear slds qc_1 qf_1)) E (tX5_cutBy l D cI cZ cM cS qo qs qc qf sfin hC1) 1 gX4_refineRow_X5_cutBy rfl rfl rfl (by decide +kernel) ⟨Nat.le_of_ble_eq_true rfl, Nat.le_of_ble_eq_true rfl⟩ hK hP hD hS hA [7, 8] [0, 1, 2, 3, 4, 5, 6] [0, 1, 2, 3, 4, 5, 6, 7, 8] (by decide) rfl rfl (by decide) (by decide) rfl (by decide) 0 5 rfl rfl rfl rfl hl.1 rfl (Nat.le_of_ble_eq_true rfl) dX4_refineRow_33 ⟨Nat.zero_le _, Nat.zero_le _⟩ (fun H locs hP hD hS => ?_)
    refine W.eq (g2 := F0 m 36 ls []) rfl ?_
    refine lv_aload_n (pc := 36) hx hb dX4_refineRow_36 rfl (lv_at hl 0 rfl) ?_
    refine lv_aload_n (pc := 37) hx hb dX4_refineRow_37 rfl (lv_at hl 1 rfl) ?_
    refine lv_aload_n (pc := 38) hx hb dX4_refineRow_38 rfl (lv_at hl 2 rfl) ?_
    refine lv_iconst (v := (1 : Int32)) (pc := 39) hx hb dX4_refineRow_39 (by decide) ?_
    obtain ⟨bc_1, bf_1, qc_2, qf_2, hC2, hF⟩ := ob4_e hF
    refine zV (pc := 40) (As := [.ref so, .ref qo, .int (1 : Int32)]) (rest := []) (wr := []) (w2 := (wX4_refineRow cI cZ cM cS fo bo bs so sca sna sla sra qo qs bc_1 bf_1 sn sl sfin swk scols snear slds qc_2 qf_2)) E (tX4_settle l D cI cZ cM cS fo bo bs so sca sna sla sra qo qs bc bf sn sl sfin swk scols snear slds qc_1 qf_1 (1 : Int32) hC2) 3 gX4_refineRow_X4_settle rfl rfl rfl (by decide +kernel) ⟨Nat.le_of_ble_eq_true rfl, Nat.le_of_ble_eq_true rfl⟩ hK hP hD hS hA [0, 1, 2, 3, 4, 5, 6, 7, 8] [] [0, 1, 2, 3, 4, 5, 6, 7, 8] (by decide) rfl rfl (by decide) (by decide) rfl (by decide) 0 4 rfl rfl rfl rfl hl.1 rfl (Nat.le_of_ble_eq_true rfl) dX4_refineRow_40 ⟨Nat.zero_le _, Nat.zero_le _⟩ (fun H locs hP hD hS => ?_)
    refine W.eq (g2 := F0 m 43 ls []) rfl ?_
    refine lv_goto (pc := 43) (tgt := 63) hx hb dX4_refineRow_43 (by decide) ?_
    cases hF
    exact hRet _ _ _ _ dX4_refineRow_63 hP hD hS
  have hF := oif_f hF hk10100
  by_cases hk10101 : p3 = (4 : Int32)
  · have hF := oif_t hF hk10101
    rw [hk10101] at exs
    rw [exs]
    refine lv_lookup (pc := 1) (tgt := 46) hx hb dX4_refineRow_1 (by decide) rfl (by decide) ?_
    refine lv_aload_n (pc := 46) hx hb dX4_refineRow_46 rfl (lv_at hl 0 rfl) ?_
    refine lv_aload_n (pc := 47) hx hb dX4_refineRow_47 rfl (lv_at hl 1 rfl) ?_
    refine lv_aload_n (pc := 48) hx hb dX4_refineRow_48 rfl (lv_at hl 2 rfl) ?_
    refine lv_iconst (v := (0 : Int32)) (pc := 49) hx hb dX4_refineRow_49 (by decide) ?_
    obtain ⟨bc_2, bf_2, qc_3, qf_3, hC3, hF⟩ := ob4_e hF
    refine zV (pc := 50) (As := [.ref so, .ref qo, .int (0 : Int32)]) (rest := []) (wr := []) (w2 := (wX4_refineRow cI cZ cM cS fo bo bs so sca sna sla sra qo qs bc_2 bf_2 sn sl sfin swk scols snear slds qc_3 qf_3)) E (tX4_settle l D cI cZ cM cS fo bo bs so sca sna sla sra qo qs bc bf sn sl sfin swk scols snear slds qc qf (0 : Int32) hC3) 3 gX4_refineRow_X4_settle rfl rfl rfl (by decide +kernel) ⟨Nat.le_of_ble_eq_true rfl, Nat.le_of_ble_eq_true rfl⟩ hK hP hD hS hA [0, 1, 2, 3, 4, 5, 6, 7, 8] [] [0, 1, 2, 3, 4, 5, 6, 7, 8] (by decide) rfl rfl (by decide) (by decide) rfl (by decide) 0 4 rfl rfl rfl rfl hl.1 rfl (Nat.le_of_ble_eq_true rfl) dX4_refineRow_50 ⟨Nat.zero_le _, Nat.zero_le _⟩ (fun H locs hP hD hS => ?_)
    refine W.eq (g2 := F0 m 53 ls []) rfl ?_
    refine lv_goto (pc := 53) (tgt := 63) hx hb dX4_refineRow_53 (by decide) ?_
    cases hF
    exact hRet _ _ _ _ dX4_refineRow_63 hP hD hS
  have hF := oif_f hF hk10101
  rw [exs]
  refine lv_lookup (pc := 1) (off := 55) (tgt := 56) hx hb dX4_refineRow_1 (by decide) (zlook2 hk10100 hk10101) (by decide) ?_
  refine lv_aload_n (pc := 56) hx hb dX4_refineRow_56 rfl (lv_at hl 0 rfl) ?_
  refine lv_aload_n (pc := 57) hx hb dX4_refineRow_57 rfl (lv_at hl 1 rfl) ?_
  refine lv_aload_n (pc := 58) hx hb dX4_refineRow_58 rfl (lv_at hl 2 rfl) ?_
  refine lv_iload_n (pc := 59) hx hb dX4_refineRow_59 rfl (lv_at hl 3 rfl) ?_
  obtain ⟨qc_4, qf_4, hC4, hF⟩ := ob2_e hF
  refine zV (pc := 60) (As := [.ref so, .ref qo, .int p3]) (rest := []) (wr := [(bo, .inr (5, [.ref bs, .int bc])), (bs, .inl (cI, 12, .inl bf))]) (w2 := (wX4_refineRow cI cZ cM cS fo bo bs so sca sna sla sra qo qs bc bf sn sl sfin swk scols snear slds qc_4 qf_4)) E (tX4_cutByAll l D cI cZ cM cS fo bo so sca sna sla sra qo qs sn sl sfin swk scols snear slds qc qf p3 hC4) 3 gX4_refineRow_X4_cutByAll rfl rfl rfl (by decide +kernel) ⟨Nat.le_of_ble_eq_true rfl, Nat.le_of_ble_eq_true rfl⟩ hK hP hD hS hA [0, 3, 4, 5, 6, 7, 8] [1, 2] [2, 0, 1, 3, 4, 5, 6, 7, 8] (by decide) rfl rfl (by decide) (by decide) rfl (by decide) 0 4 rfl rfl rfl rfl hl.1 rfl (Nat.le_of_ble_eq_true rfl) dX4_refineRow_60 ⟨Nat.zero_le _, Nat.zero_le _⟩ (fun H locs hP hD hS => ?_)
  refine W.eq (g2 := F0 m 63 ls []) rfl ?_
  cases hF
  exact hRet _ _ _ _ dX4_refineRow_63 hP hD hS
def fX4_shortestWordApart_b19 (p3 : Int32) (p4 : Int32) (sn : Int32) (sl : Int32) (sfin : Int32) (swk : Int32) (slds : (Nat → Int32)) (x5_2 : Int32) (bc_3 : Int32) (bf_3 : (Nat → Int32)) (qc_5 : Int32) (qf_5 : (Nat → Int32)) : Option ((Int32 × Int32 × (Nat → Int32) × Int32 × (Nat → Int32)) ⊕ (Int32 × Int32 × (Nat → Int32) × Int32 × (Nat → Int32))) := (if (12 : Int32) ≤ x5_2 then (some (.inr ((-1 : Int32), bc_3, bf_3, qc_5, qf_5))) else (ob1 (fX5_placeOf p3 qc_5 qf_5) (fun r_4 => (ob1 (fX5_placeOf p4 qc_5 qf_5) (fun r_5 => (if r_4 = r_5 then (ob2 (fX5_copyFrom bc_3 bf_3 qc_5 qf_5) (fun bc_4 bf_4 => (ob2 (fX4_cutByLetters bc_4 bf_4 sn sl sfin swk slds qc_5 qf_5) (fun qc_6 qf_6 => (if qc_6 = bc_4 then (some (.inr ((-1 : Int32), bc_4, bf_4, qc_6, qf_6))) else (some (.inl ((x5_2 + (1 : Int32)), bc_4, bf_4, qc_6, qf_6)))))))) else (some (.inr (x5_2, bc_3, bf_3, qc_5, qf_5)))))))))
def fX4_shortestWordApart_s19 (p3 : Int32) (p4 : Int32) (sn : Int32) (sl : Int32) (sfin : Int32) (swk : Int32) (slds : (Nat → Int32)) (sg_ : Int32 × Int32 × (Nat → Int32) × Int32 × (Nat → Int32)) : Option ((Int32 × Int32 × (Nat → Int32) × Int32 × (Nat → Int32)) ⊕ (Int32 × Int32 × (Nat → Int32) × Int32 × (Nat → Int32))) := fX4_shortestWordApart_b19 p3 p4 sn sl sfin swk slds sg_.1 sg_.2.1 sg_.2.2.1 sg_.2.2.2.1 sg_.2.2.2.2
def fX4_shortestWordApart (p3 : Int32) (p4 : Int32) (bc : Int32) (bf : (Nat → Int32)) (sn : Int32) (sl : Int32) (sfin : Int32) (swk : Int32) (slds : (Nat → Int32)) (qc : Int32) (qf : (Nat → Int32)) : Option (Int32 × Int32 × (Nat → Int32) × Int32 × (Nat → Int32)) := (ob1 (fX6_all sn sl sfin swk) (fun r_1 => (ob2 (fX5_gather r_1 qc qf) (fun qc_1 qf_1 => (ob2 (fX5_cutBy sfin qc_1 qf_1) (fun qc_2 qf_2 => (olp (fX4_shortestWordApart_s19 p3 p4 sn sl sfin swk slds) oFu ((0 : Int32), bc, bf, qc_2, qf_2))))))))
abbrev wX4_shortestWordApart (cI cZ cM cS : ClassId) (fo bo bs so sca sna sla sra qo qs : Nat) (bc : Int32) (bf : (Nat → Int32)) (sn : Int32) (sl : Int32) (sfin : Int32) (swk : Int32) (slds : (Nat → Int32)) (qc : Int32) (qf : (Nat → Int32)) : va_W := [(fo, .inr (4, [.ref bo])), (bo, .inr (5, [.ref bs, .int bc])), (bs, .inl (cI, 12, .inl bf)), (so, .inr (6, [.int sn, .int sl, .int sfin, .int swk, .ref sca, .ref sna, .ref sla, .ref sra])), (sla, .inl (cI, 36, .inl slds)), (qo, .inr (5, [.ref qs, .int qc])), (qs, .inl (cI, 12, .inl qf))]
set_option maxHeartbeats 4000000 in
set_option maxRecDepth 100000 in
theorem tX4_shortestWordApart (l : Launch) (D : va_G) (cI cZ cM cS : ClassId) (fo bo bs so sca sna sla sra qo qs : Nat) (bc : Int32) (bf : (Nat → Int32)) (sn : Int32) (sl : Int32) (sfin : Int32) (swk : Int32) (slds : (Nat → Int32)) (qc : Int32) (qf : (Nat → Int32)) (p3 : Int32) (p4 : Int32) {r : Int32} {bc' : Int32} {bf' : (Nat → Int32)} {qc' : Int32} {qf' : (Nat → Int32)} (hF : fX4_shortestWordApart p3 p4 bc bf sn sl sfin swk slds qc qf = some (r, bc', bf', qc', qf')) : zCW l yX4_shortestWordApart wsX4_shortestWordApart (zRm 4 91) D (zTy cI cZ cM cS) [.ref fo, .ref so, .ref qo, .int p3, .int p4] (wX4_shortestWordApart cI cZ cM cS fo bo bs so sca sna sla sra qo qs bc bf sn sl sfin swk slds qc qf) (wX4_shortestWordApart cI cZ cM cS fo bo bs so sca sna sla sra qo qs bc' bf' sn sl sfin swk slds qc' qf') (some (.int r)) := by
  unfold fX4_shortestWordApart at hF
  refine zCW_ofi (cc := cX4_shortestWordApart) (maxL := 6) (own := RX4) (by decide) rfl rfl (Nat.le_of_ble_eq_true rfl) (fun p e s m args below meth c Q ls A E hA hK hP hD hRet hS hl => ?_)
  refine zgen (fun H locs hP hS => ?_) hP hS
  have hl : lv_has ls 6 [(0, .ref fo), (1, .ref so), (2, .ref qo), (3, .int p3), (4, .int p4)] := hl
  obtain ⟨hx, hb, hml, hown, hts⟩ := id E
  have inX4 : ∀ w ∈ u_ws RX4 TX4 1, w ∈ wsX4_shortestWordApart := by decide +kernel
  have inX5 : ∀ w ∈ u_ws RX5 TX5 2, w ∈ wsX4_shortestWordApart := by decide +kernel
  have inX6 : ∀ w ∈ u_ws RX6 TX6 8, w ∈ wsX4_shortestWordApart := by decide +kernel
  have fl12 := hts (.fieldLink RX4 12 "SplitClasses$Refiner" "before" "LSplitClasses$Row;") (by decide +kernel)
  have fl18 := hts (.fieldLink RX4 18 "SplitClasses$State" "finalSet" "I") (by decide +kernel)
  have fl54 := hts (.fieldLink RX4 54 "SplitClasses$Row" "count" "I") (by decide +kernel)
  refine lv_aload_n (pc := 0) hx hb dX4_shortestWordApart_0 rfl (lv_at hl 2 rfl) ?_
  refine lv_aload_n (pc := 1) hx hb dX4_shortestWordApart_1 rfl (lv_at hl 1 rfl) ?_
  obtain ⟨r_1, hC1, hF⟩ := ob1_e hF
  refine zVr (pc := 2) (As := []) (rest := [.ref qo]) E (tX6_all l D cI cZ cM cS so sca sna sla sra sn sl sfin swk hC1) 0 gX4_shortestWordApart_X6_all rfl rfl rfl (by decide +kernel) ⟨Nat.le_of_ble_eq_true rfl, Nat.le_of_ble_eq_true rfl⟩ hK hP [3] rfl 0 6 rfl rfl rfl rfl hl.1 rfl (Nat.le_of_ble_eq_true rfl) dX4_shortestWordApart_2 ⟨Nat.zero_le _, Nat.zero_le _⟩ ?_
  obtain ⟨qc_1, qf_1, hC2, hF⟩ := ob2_e hF
  refine zV (pc := 5) (As := [.int r_1]) (rest := []) (wr := [(fo, .inr (4, [.ref bo])), (bo, .inr (5, [.ref bs, .int bc])), (bs, .inl (cI, 12, .inl bf)), (so, .inr (6, [.int sn, .int sl, .int sfin, .int swk, .ref sca, .ref sna, .ref sla, .ref sra])), (sla, .inl (cI, 36, .inl slds))]) (w2 := (wX4_shortestWordApart cI cZ cM cS fo bo bs so sca sna sla sra qo qs bc bf sn sl sfin swk slds qc_1 qf_1)) E (tX5_gather l D cI cZ cM cS qo qs qc qf r_1 hC2) 1 gX4_shortestWordApart_X5_gather rfl rfl rfl (by decide +kernel) ⟨Nat.le_of_ble_eq_true rfl, Nat.le_of_ble_eq_true rfl⟩ hK hP hD hS hA [5, 6] [0, 1, 2, 3, 4] [0, 1, 2, 3, 4, 5, 6] (by decide) rfl rfl (by decide) (by decide) rfl (by decide) 0 5 rfl rfl rfl rfl hl.1 rfl (Nat.le_of_ble_eq_true rfl) dX4_shortestWordApart_5 ⟨Nat.zero_le _, Nat.zero_le _⟩ (fun H locs hP hD hS => ?_)
  refine W.eq (g2 := F0 m 8 ls []) rfl ?_
  refine lv_aload_n (pc := 8) hx hb dX4_shortestWordApart_8 rfl (lv_at hl 2 rfl) ?_
  refine lv_aload_n (pc := 9) hx hb dX4_shortestWordApart_9 rfl (lv_at hl 1 rfl) ?_
  refine va_get (pc := 10) (ci := 6) (C := RX6) (T := TX6) (N := 8) hx hb hts inX6 hown hK hP 3 rfl rfl 2 (by decide) fl18 (fun _ h9 => h9) rfl dX4_shortestWordApart_10 ?_
  obtain ⟨qc_2, qf_2, hC3, hF⟩ := ob2_e hF
  refine zV (pc := 13) (As := [.int sfin]) (rest := []) (wr := [(fo, .inr (4, [.ref bo])), (bo, .inr (5, [.ref bs, .int bc])), (bs, .inl (cI, 12, .inl bf)), (so, .inr (6, [.int sn, .int sl, .int sfin, .int swk, .ref sca, .ref sna, .ref sla, .ref sra])), (sla, .inl (cI, 36, .inl slds))]) (w2 := (wX4_shortestWordApart cI cZ cM cS fo bo bs so sca sna sla sra qo qs bc bf sn sl sfin swk slds qc_2 qf_2)) E (tX5_cutBy l D cI cZ cM cS qo qs qc_1 qf_1 sfin hC3) 1 gX4_shortestWordApart_X5_cutBy rfl rfl rfl (by decide +kernel) ⟨Nat.le_of_ble_eq_true rfl, Nat.le_of_ble_eq_true rfl⟩ hK hP hD hS hA [5, 6] [0, 1, 2, 3, 4] [0, 1, 2, 3, 4, 5, 6] (by decide) rfl rfl (by decide) (by decide) rfl (by decide) 0 5 rfl rfl rfl rfl hl.1 rfl (Nat.le_of_ble_eq_true rfl) dX4_shortestWordApart_13 ⟨Nat.zero_le _, Nat.zero_le _⟩ (fun H locs hP hD hS => ?_)
  refine W.eq (g2 := F0 m 16 ls []) rfl ?_
  refine lv_iconst (v := (0 : Int32)) (pc := 16) hx hb dX4_shortestWordApart_16 (by decide) ?_
  refine lv_istore (lv' := [(5, .int (0 : Int32)), (0, .ref fo), (1, .ref so), (2, .ref qo), (3, .int p3), (4, .int p4)]) (pc := 17) hx hb dX4_shortestWordApart_17 hl (by decide) rfl (fun ls hl => ?_)
  have hL8 := hF
  have lp8 : ∀ (n : Nat) (x5_2 : Int32) (bc_3 : Int32) (bf_3 : (Nat → Int32)) (qc_5 : Int32) (qf_5 : (Nat → Int32)) (H : Heap) (locs : List Loc) (ls : Array Slot), olp (fX4_shortestWordApart_s19 p3 p4 sn sl sfin swk slds) n (x5_2, bc_3, bf_3, qc_5, qf_5) = some (r, bc', bf', qc', qf') → va_P D vwCl (wX4_shortestWordApart cI cZ cM cS fo bo bs so sca sna sla sra qo qs bc_3 bf_3 sn sl sfin swk slds qc_5 qf_5) H → va_D A (wX4_shortestWordApart cI cZ cM cS fo bo bs so sca sna sla sra qo qs bc_3 bf_3 sn sl sfin swk slds qc_5 qf_5) → va_S A s.heap H locs → lv_has ls 6 [(5, .int x5_2), (0, .ref fo), (1, .ref so), (2, .ref qo), (3, .int p3), (4, .int p4)] → W p l e (zRm 4 91) s m args below meth c H locs 0 0 Q (F0 m 19 ls []) := by
    intro n
    induction n with
    | zero => intro x5_2 bc_3 bf_3 qc_5 qf_5 H locs ls hL; exact olp_0 hL
    | succ n ih =>
      intro x5_2 bc_3 bf_3 qc_5 qf_5 H locs ls hL8 hP hD hS hl
      obtain ⟨z, hz8, hL8⟩ := olp_e hL8
      have hz8 : fX4_shortestWordApart_b19 p3 p4 sn sl sfin swk slds x5_2 bc_3 bf_3 qc_5 qf_5 = some z := hz8
      unfold fX4_shortestWordApart_b19 at hz8
      refine lv_iload (pc := 19) hx hb dX4_shortestWordApart_19 (lv_at hl 0 rfl) ?_
      refine lv_bipush (v := (12 : Int32)) (pc := 21) hx hb dX4_shortestWordApart_21 (by decide) ?_
      refine lv_icmp_ge (pc := 23) (tgt := 80) hx hb dX4_shortestWordApart_23 (by decide) (fun hc => ?_) (fun hc => ?_)
      · have hz8 := oif_t hz8 hc
        refine lv_iconst (v := (-1 : Int32)) (pc := 80) hx hb dX4_shortestWordApart_80 (by decide) ?_
        have hE := olp_r hz8 hL8
        cases hE
        exact hRet _ _ _ _ rfl dX4_shortestWordApart_81 hP hD hS
      · have hz8 := oif_f hz8 hc
        refine lv_aload_n (pc := 26) hx hb dX4_shortestWordApart_26 rfl (lv_at hl 3 rfl) ?_
        refine lv_iload_n (pc := 27) hx hb dX4_shortestWordApart_27 rfl (lv_at hl 4 rfl) ?_
        obtain ⟨r_4, hC9, hz8⟩ := ob1_e hz8
        refine zVr (pc := 28) (As := [.int p3]) (rest := []) E (tX5_placeOf l D cI cZ cM cS qo qs qc_5 qf_5 p3 hC9) 1 gX4_shortestWordApart_X5_placeOf rfl rfl rfl (by decide +kernel) ⟨Nat.le_of_ble_eq_true rfl, Nat.le_of_ble_eq_true rfl⟩ hK hP [5, 6] rfl 0 5 rfl rfl rfl rfl hl.1 rfl (Nat.le_of_ble_eq_true rfl) dX4_shortestWordApart_28 ⟨Nat.zero_le _, Nat.zero_le _⟩ ?_
        refine lv_aload_n (pc := 31) hx hb dX4_shortestWordApart_31 rfl (lv_at hl 3 rfl) ?_
        refine lv_iload (pc := 32) hx hb dX4_shortestWordApart_32 (lv_at hl 5 rfl) ?_
        obtain ⟨r_5, hC10, hz8⟩ := ob1_e hz8
        refine zVr (pc := 34) (As := [.int p4]) (rest := [.int r_4]) E (tX5_placeOf l D cI cZ cM cS qo qs qc_5 qf_5 p4 hC10) 1 gX4_shortestWordApart_X5_placeOf rfl rfl rfl (by decide +kernel) ⟨Nat.le_of_ble_eq_true rfl, Nat.le_of_ble_eq_true rfl⟩ hK hP [5, 6] rfl 0 5 rfl rfl rfl rfl hl.1 rfl (Nat.le_of_ble_eq_true rfl) dX4_shortestWordApart_34 ⟨Nat.zero_le _, Nat.zero_le _⟩ ?_
        refine lv_icmp_eq (pc := 37) (tgt := 43) hx hb dX4_shortestWordApart_37 (by decide) (fun hc => ?_) (fun hc => ?_)
        · have hz8 := oif_t hz8 hc
          refine lv_aload_n (pc := 43) hx hb dX4_shortestWordApart_43 rfl (lv_at hl 1 rfl) ?_
          refine va_get (pc := 44) (ci := 4) (C := RX4) (T := TX4) (N := 1) hx hb hts inX4 hown hK hP 0 rfl rfl 0 (by decide) fl12 (fun _ h9 => h9) rfl dX4_shortestWordApart_44 ?_
          refine lv_aload_n (pc := 47) hx hb dX4_shortestWordApart_47 rfl (lv_at hl 3 rfl) ?_
          obtain ⟨bc_4, bf_4, hC11, hz8⟩ := ob2_e hz8
          refine zV (pc := 48) (As := [.ref qo]) (rest := []) (wr := [(fo, .inr (4, [.ref bo])), (so, .inr (6, [.int sn, .int sl, .int sfin, .int swk, .ref sca, .ref sna, .ref sla, .ref sra])), (sla, .inl (cI, 36, .inl slds))]) (w2 := (wX4_shortestWordApart cI cZ cM cS fo bo bs so sca sna sla sra qo qs bc_4 bf_4 sn sl sfin swk slds qc_5 qf_5)) E (tX5_copyFrom l D cI cZ cM cS bo bs qo qs bc_3 bf_3 qc_5 qf_5 hC11) 1 gX4_shortestWordApart_X5_copyFrom rfl rfl rfl (by decide +kernel) ⟨Nat.le_of_ble_eq_true rfl, Nat.le_of_ble_eq_true rfl⟩ hK hP hD hS hA [1, 2, 5, 6] [0, 3, 4] [0, 3, 4, 1, 2, 5, 6] (by decide) rfl rfl (by decide) (by decide) rfl (by decide) 0 5 rfl rfl rfl rfl hl.1 rfl (Nat.le_of_ble_eq_true rfl) dX4_shortestWordApart_48 ⟨Nat.zero_le _, Nat.zero_le _⟩ (fun H locs hP hD hS => ?_)
          refine W.eq (g2 := F0 m 51 ls []) rfl ?_
          refine lv_aload_n (pc := 51) hx hb dX4_shortestWordApart_51 rfl (lv_at hl 1 rfl) ?_
          refine lv_aload_n (pc := 52) hx hb dX4_shortestWordApart_52 rfl (lv_at hl 2 rfl) ?_
          refine lv_aload_n (pc := 53) hx hb dX4_shortestWordApart_53 rfl (lv_at hl 3 rfl) ?_
          obtain ⟨qc_6, qf_6, hC12, hz8⟩ := ob2_e hz8
          refine zV (pc := 54) (As := [.ref so, .ref qo]) (rest := []) (wr := []) (w2 := (wX4_shortestWordApart cI cZ cM cS fo bo bs so sca sna sla sra qo qs bc_4 bf_4 sn sl sfin swk slds qc_6 qf_6)) E (tX4_cutByLetters l D cI cZ cM cS fo bo bs so sca sna sla sra qo qs bc_4 bf_4 sn sl sfin swk slds qc_5 qf_5 hC12) 2 gX4_shortestWordApart_X4_cutByLetters rfl rfl rfl (by decide +kernel) ⟨Nat.le_of_ble_eq_true rfl, Nat.le_of_ble_eq_true rfl⟩ hK hP hD hS hA [0, 1, 2, 3, 4, 5, 6] [] [0, 1, 2, 3, 4, 5, 6] (by decide) rfl rfl (by decide) (by decide) rfl (by decide) 0 4 rfl rfl rfl rfl hl.1 rfl (Nat.le_of_ble_eq_true rfl) dX4_shortestWordApart_54 ⟨Nat.zero_le _, Nat.zero_le _⟩ (fun H locs hP hD hS => ?_)
          refine W.eq (g2 := F0 m 57 ls []) rfl ?_
          refine lv_aload_n (pc := 57) hx hb dX4_shortestWordApart_57 rfl (lv_at hl 3 rfl) ?_
          refine va_get (pc := 58) (ci := 5) (C := RX5) (T := TX5) (N := 2) hx hb hts inX5 hown hK hP 5 rfl rfl 1 (by decide) fl54 (fun _ h9 => h9) rfl dX4_shortestWordApart_58 ?_
          refine lv_aload_n (pc := 61) hx hb dX4_shortestWordApart_61 rfl (lv_at hl 1 rfl) ?_
          refine va_get (pc := 62) (ci := 4) (C := RX4) (T := TX4) (N := 1) hx hb hts inX4 hown hK hP 0 rfl rfl 0 (by decide) fl12 (fun _ h9 => h9) rfl dX4_shortestWordApart_62 ?_
          refine va_get (pc := 65) (ci := 5) (C := RX5) (T := TX5) (N := 2) hx hb hts inX5 hown hK hP 1 rfl rfl 1 (by decide) fl54 (fun _ h9 => h9) rfl dX4_shortestWordApart_65 ?_
          refine lv_icmp_ne (pc := 68) (tgt := 74) hx hb dX4_shortestWordApart_68 (by decide) (fun hc => ?_) (fun hc => ?_)
          · have hz8 := oif_f hz8 hc
            refine lv_iinc (v := (x5_2 + (1 : Int32))) (lv' := [(5, .int (x5_2 + (1 : Int32))), (0, .ref fo), (1, .ref so), (2, .ref qo), (3, .int p3), (4, .int p4)]) (pc := 74) hx hb dX4_shortestWordApart_74 hl (k := 0) rfl rfl (by decide) rfl (fun ls hl => ?_)
            refine lv_goto (pc := 77) (tgt := 19) hx hb dX4_shortestWordApart_77 (by decide) ?_
            exact ih _ _ _ _ _ _ _ _ (olp_l hz8 hL8) hP hD hS (lv_sub hl [0, 1, 2, 3, 4, 5] rfl)
          · have hz8 := oif_t hz8 hc
            refine lv_goto (pc := 71) (tgt := 80) hx hb dX4_shortestWordApart_71 (by decide) ?_
            refine lv_iconst (v := (-1 : Int32)) (pc := 80) hx hb dX4_shortestWordApart_80 (by decide) ?_
            have hE := olp_r hz8 hL8
            cases hE
            exact hRet _ _ _ _ rfl dX4_shortestWordApart_81 hP hD hS
        · have hz8 := oif_f hz8 hc
          refine lv_iload (pc := 40) hx hb dX4_shortestWordApart_40 (lv_at hl 0 rfl) ?_
          have hE := olp_r hz8 hL8
          cases hE
          exact hRet _ _ _ _ rfl dX4_shortestWordApart_42 hP hD hS
  exact lp8 oFu _ _ _ _ _ _ _ _ hL8 hP hD hS (lv_sub hl [0, 1, 2, 3, 4, 5] rfl)
