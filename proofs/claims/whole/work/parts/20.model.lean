def fX9_in (p0 : Int32) (p1 : Int32) (p2 : Int32) : Option (Int32) := (if p0 < p1 then (some (0 : Int32)) else (if p2 < p0 then (some (0 : Int32)) else (some (1 : Int32))))
abbrev wX9_in (cI cZ cM cS : ClassId) : va_W := []
set_option maxHeartbeats 4000000 in
set_option maxRecDepth 100000 in
theorem tX9_in (l : Launch) (D : va_G) (cI cZ cM cS : ClassId) (p0 : Int32) (p1 : Int32) (p2 : Int32) {r : Int32} (hF : fX9_in p0 p1 p2 = some r) : zCR l yX9_in wsX9_in (zRm 0 0) D (zTy cI cZ cM cS) [.int p0, .int p1, .int p2] (wX9_in cI cZ cM cS ) r := by
  unfold fX9_in at hF
  refine zCR_of (cc := cX9_in) (maxL := 3) (own := RX9) (by decide +kernel) rfl rfl (Nat.le_of_ble_eq_true rfl) (fun p e s m args below meth c Q ls E hK hP hRet hl => ?_)
  have hl : lv_has ls 3 [(0, .int p0), (1, .int p1), (2, .int p2)] := hl
  obtain ⟨hx, hb, hml, hown, hts⟩ := id E
  refine lv_iload_n (pc := 0) hx hb dX9_in_0 rfl (lv_at hl 0 rfl) ?_
  refine lv_iload_n (pc := 1) hx hb dX9_in_1 rfl (lv_at hl 1 rfl) ?_
  refine lv_icmp_lt (pc := 2) (tgt := 14) hx hb dX9_in_2 (by decide) (fun hc => ?_) (fun hc => ?_)
  · have hF := oif_t hF hc
    refine lv_iconst (v := (0 : Int32)) (pc := 14) hx hb dX9_in_14 (by decide) ?_
    cases hF
    exact hRet _ _ rfl dX9_in_15
  · have hF := oif_f hF hc
    refine lv_iload_n (pc := 5) hx hb dX9_in_5 rfl (lv_at hl 0 rfl) ?_
    refine lv_iload_n (pc := 6) hx hb dX9_in_6 rfl (lv_at hl 2 rfl) ?_
    refine lv_icmp_gt (pc := 7) (tgt := 14) hx hb dX9_in_7 (by decide) (fun hc => ?_) (fun hc => ?_)
    · have hF := oif_t hF hc
      refine lv_iconst (v := (0 : Int32)) (pc := 14) hx hb dX9_in_14 (by decide) ?_
      cases hF
      exact hRet _ _ rfl dX9_in_15
    · have hF := oif_f hF hc
      refine lv_iconst (v := (1 : Int32)) (pc := 10) hx hb dX9_in_10 (by decide) ?_
      refine lv_goto (pc := 11) (tgt := 15) hx hb dX9_in_11 (by decide) ?_
      cases hF
      exact hRet _ _ rfl dX9_in_15
def fX9_has (p0 : Int32) (p1 : Int32) : Option (Int32) := (if ((p0 >>> (p1 &&& 31)) &&& (1 : Int32)) = (1 : Int32) then (some (1 : Int32)) else (some (0 : Int32)))
abbrev wX9_has (cI cZ cM cS : ClassId) : va_W := []
set_option maxHeartbeats 4000000 in
set_option maxRecDepth 100000 in
theorem tX9_has (l : Launch) (D : va_G) (cI cZ cM cS : ClassId) (p0 : Int32) (p1 : Int32) {r : Int32} (hF : fX9_has p0 p1 = some r) : zCR l yX9_has wsX9_has (zRm 0 0) D (zTy cI cZ cM cS) [.int p0, .int p1] (wX9_has cI cZ cM cS ) r := by
  unfold fX9_has at hF
  refine zCR_of (cc := cX9_has) (maxL := 2) (own := RX9) (by decide +kernel) rfl rfl (Nat.le_of_ble_eq_true rfl) (fun p e s m args below meth c Q ls E hK hP hRet hl => ?_)
  have hl : lv_has ls 2 [(0, .int p0), (1, .int p1)] := hl
  obtain ⟨hx, hb, hml, hown, hts⟩ := id E
  refine lv_iload_n (pc := 0) hx hb dX9_has_0 rfl (lv_at hl 0 rfl) ?_
  refine lv_iload_n (pc := 1) hx hb dX9_has_1 rfl (lv_at hl 1 rfl) ?_
  refine lv_ishr (pc := 2) hx hb dX9_has_2 ?_
  refine lv_iconst (v := (1 : Int32)) (pc := 3) hx hb dX9_has_3 (by decide) ?_
  refine lv_iand (pc := 4) hx hb dX9_has_4 ?_
  refine lv_iconst (v := (1 : Int32)) (pc := 5) hx hb dX9_has_5 (by decide) ?_
  refine lv_icmp_ne (pc := 6) (tgt := 13) hx hb dX9_has_6 (by decide) (fun hc => ?_) (fun hc => ?_)
  · have hF := oif_f hF hc
    refine lv_iconst (v := (0 : Int32)) (pc := 13) hx hb dX9_has_13 (by decide) ?_
    cases hF
    exact hRet _ _ rfl dX9_has_14
  · have hF := oif_t hF hc
    refine lv_iconst (v := (1 : Int32)) (pc := 9) hx hb dX9_has_9 (by decide) ?_
    refine lv_goto (pc := 10) (tgt := 14) hx hb dX9_has_10 (by decide) ?_
    cases hF
    exact hRet _ _ rfl dX9_has_14
def fX9_sizeOf_b4 (p0 : Int32) (x2_2 : Int32) (x1_3 : Int32) : Option ((Int32 × Int32) ⊕ (Int32)) := (if (12 : Int32) ≤ x2_2 then (some (.inr x1_3)) else (onm (x1_3 + ((p0 >>> (x2_2 &&& 31)) &&& (1 : Int32))) (fun x1_5 => (some (.inl ((x2_2 + (1 : Int32)), x1_5))))))
def fX9_sizeOf_s4 (p0 : Int32) (sg_ : Int32 × Int32) : Option ((Int32 × Int32) ⊕ (Int32)) := fX9_sizeOf_b4 p0 sg_.1 sg_.2
def fX9_sizeOf (p0 : Int32) : Option (Int32) := (ob1 (olp (fX9_sizeOf_s4 p0) oFu ((0 : Int32), (0 : Int32))) (fun x1_4 => (some x1_4)))
abbrev wX9_sizeOf (cI cZ cM cS : ClassId) : va_W := []
set_option maxHeartbeats 4000000 in
set_option maxRecDepth 100000 in
theorem tX9_sizeOf (l : Launch) (D : va_G) (cI cZ cM cS : ClassId) (p0 : Int32) {r : Int32} (hF : fX9_sizeOf p0 = some r) : zCR l yX9_sizeOf wsX9_sizeOf (zRm 0 0) D (zTy cI cZ cM cS) [.int p0] (wX9_sizeOf cI cZ cM cS ) r := by
  unfold fX9_sizeOf at hF
  refine zCR_of (cc := cX9_sizeOf) (maxL := 3) (own := RX9) (by decide +kernel) rfl rfl (Nat.le_of_ble_eq_true rfl) (fun p e s m args below meth c Q ls E hK hP hRet hl => ?_)
  have hl : lv_has ls 3 [(0, .int p0)] := hl
  obtain ⟨hx, hb, hml, hown, hts⟩ := id E
  refine lv_iconst (v := (0 : Int32)) (pc := 0) hx hb dX9_sizeOf_0 (by decide) ?_
  refine lv_istore_n (lv' := [(1, .int (0 : Int32)), (0, .int p0)]) (pc := 1) hx hb dX9_sizeOf_1 rfl hl (by decide) rfl (fun ls hl => ?_)
  refine lv_iconst (v := (0 : Int32)) (pc := 2) hx hb dX9_sizeOf_2 (by decide) ?_
  refine lv_istore_n (lv' := [(2, .int (0 : Int32)), (1, .int (0 : Int32)), (0, .int p0)]) (pc := 3) hx hb dX9_sizeOf_3 rfl hl (by decide) rfl (fun ls hl => ?_)
  obtain ⟨x1_4, hL1, hF⟩ := ob1_e hF
  have ex1 : ∀ (ls : Array Slot), lv_has ls 3 [(1, .int x1_4)] → W p l e (zRm 0 0) s m args below meth c s.heap [] 0 0 Q (F0 m 24 ls []) := by
    intro ls hl
    refine lv_iload_n (pc := 24) hx hb dX9_sizeOf_24 rfl (lv_at hl 0 rfl) ?_
    cases hF
    exact hRet _ _ rfl dX9_sizeOf_25
  have lp1 : ∀ (n : Nat) (x2_2 : Int32) (x1_3 : Int32) (ls : Array Slot), olp (fX9_sizeOf_s4 p0) n (x2_2, x1_3) = some x1_4 → lv_has ls 3 [(2, .int x2_2), (1, .int x1_3), (0, .int p0)] → W p l e (zRm 0 0) s m args below meth c s.heap [] 0 0 Q (F0 m 4 ls []) := by
    intro n
    induction n with
    | zero => intro x2_2 x1_3 ls hL; exact olp_0 hL
    | succ n ih =>
      intro x2_2 x1_3 ls hL1 hl
      obtain ⟨z, hz1, hL1⟩ := olp_e hL1
      have hz1 : fX9_sizeOf_b4 p0 x2_2 x1_3 = some z := hz1
      unfold fX9_sizeOf_b4 at hz1
      refine lv_iload_n (pc := 4) hx hb dX9_sizeOf_4 rfl (lv_at hl 0 rfl) ?_
      refine lv_bipush (v := (12 : Int32)) (pc := 5) hx hb dX9_sizeOf_5 (by decide) ?_
      refine lv_icmp_ge (pc := 7) (tgt := 24) hx hb dX9_sizeOf_7 (by decide) (fun hc => ?_) (fun hc => ?_)
      · have hz1 := oif_t hz1 hc
        have hE := olp_r hz1 hL1
        cases hE
        exact ex1 _ (lv_sub hl [1] rfl)
      · have hz1 := oif_f hz1 hc
        refine lv_iload_n (pc := 10) hx hb dX9_sizeOf_10 rfl (lv_at hl 1 rfl) ?_
        refine lv_iload_n (pc := 11) hx hb dX9_sizeOf_11 rfl (lv_at hl 2 rfl) ?_
        refine lv_iload_n (pc := 12) hx hb dX9_sizeOf_12 rfl (lv_at hl 0 rfl) ?_
        refine lv_ishr (pc := 13) hx hb dX9_sizeOf_13 ?_
        refine lv_iconst (v := (1 : Int32)) (pc := 14) hx hb dX9_sizeOf_14 (by decide) ?_
        refine lv_iand (pc := 15) hx hb dX9_sizeOf_15 ?_
        refine lv_iadd (pc := 16) hx hb dX9_sizeOf_16 ?_
        refine lv_topi (fun x1_5 ex1_5 => ?_)
        have hz1 := onm_e hz1 x1_5 ex1_5
        refine lv_istore_n (lv' := [(1, .int x1_5), (2, .int x2_2), (0, .int p0)]) (pc := 17) hx hb dX9_sizeOf_17 rfl hl (by decide) rfl (fun ls hl => ?_)
        refine lv_iinc (v := (x2_2 + (1 : Int32))) (lv' := [(2, .int (x2_2 + (1 : Int32))), (1, .int x1_5), (0, .int p0)]) (pc := 18) hx hb dX9_sizeOf_18 hl (k := 1) rfl rfl (by decide) rfl (fun ls hl => ?_)
        refine lv_goto (pc := 21) (tgt := 4) hx hb dX9_sizeOf_21 (by decide) ?_
        exact ih _ _ _ (olp_l hz1 hL1) (lv_sub hl [0, 1, 2] rfl)
  exact lp1 oFu _ _ _ hL1 (lv_sub hl [0, 1, 2] rfl)
def fX9_bring_b3 (p4 : Int32) (p1 : Int32) (ln1 : Nat) (p3 : Int32) (ln2 : Nat) (ff : (Nat → Int32)) (x5_2 : Int32) (tf_2 : (Nat → Int32)) : Option ((Int32 × (Nat → Int32)) ⊕ ((Nat → Int32))) := (if p4 ≤ x5_2 then (some (.inr tf_2)) else (ogd (p1 + x5_2) ln1 (ogd (p3 + x5_2) ln2 (some (.inl ((x5_2 + (1 : Int32)), (upd tf_2 (Int32.toNatClampNeg (p3 + x5_2)) (ff (Int32.toNatClampNeg (p1 + x5_2))))))))))
def fX9_bring_s3 (p4 : Int32) (p1 : Int32) (ln1 : Nat) (p3 : Int32) (ln2 : Nat) (ff : (Nat → Int32)) (sg_ : Int32 × (Nat → Int32)) : Option ((Int32 × (Nat → Int32)) ⊕ ((Nat → Int32))) := fX9_bring_b3 p4 p1 ln1 p3 ln2 ff sg_.1 sg_.2
def fX9_bring (ln1 : Nat) (ln2 : Nat) (p1 : Int32) (p3 : Int32) (p4 : Int32) (ff : (Nat → Int32)) (tf : (Nat → Int32)) : Option ((Nat → Int32)) := (ob1 (olp (fX9_bring_s3 p4 p1 ln1 p3 ln2 ff) oFu ((0 : Int32), tf)) (fun tf_3 => (some tf_3)))
abbrev wX9_bring (cI cZ cM cS : ClassId) (fa ta : Nat) (ln1 : Nat) (ln2 : Nat) (ff : (Nat → Int32)) (tf : (Nat → Int32)) : va_W := [(fa, .inl (cI, ln1, .inl ff)), (ta, .inl (cI, ln2, .inl tf))]
set_option maxHeartbeats 4000000 in
set_option maxRecDepth 100000 in
theorem tX9_bring (l : Launch) (D : va_G) (cI cZ cM cS : ClassId) (fa ta : Nat) (ln1 : Nat) (ln2 : Nat) (ff : (Nat → Int32)) (tf : (Nat → Int32)) (p1 : Int32) (p3 : Int32) (p4 : Int32) {tf' : (Nat → Int32)} (hF : fX9_bring ln1 ln2 p1 p3 p4 ff tf = some tf') : zCW l yX9_bring wsX9_bring (zRm 0 0) D (zTy cI cZ cM cS) [.ref fa, .int p1, .ref ta, .int p3, .int p4] (wX9_bring cI cZ cM cS fa ta ln1 ln2 ff tf) (wX9_bring cI cZ cM cS fa ta ln1 ln2 ff tf') none := by
  unfold fX9_bring at hF
  refine zCW_ofv (cc := cX9_bring) (maxL := 6) (own := RX9) (by decide) rfl rfl (Nat.le_of_ble_eq_true rfl) (fun p e s m args below meth c Q ls A E hA hK hP hD hRet hS hl => ?_)
  refine zgen (fun H locs hP hS => ?_) hP hS
  have hl : lv_has ls 6 [(0, .ref fa), (1, .int p1), (2, .ref ta), (3, .int p3), (4, .int p4)] := hl
  obtain ⟨hx, hb, hml, hown, hts⟩ := id E
  refine lv_iconst (v := (0 : Int32)) (pc := 0) hx hb dX9_bring_0 (by decide) ?_
  refine lv_istore (lv' := [(5, .int (0 : Int32)), (0, .ref fa), (1, .int p1), (2, .ref ta), (3, .int p3), (4, .int p4)]) (pc := 1) hx hb dX9_bring_1 hl (by decide) rfl (fun ls hl => ?_)
  obtain ⟨tf_3, hL3, hF⟩ := ob1_e hF
  have ex3 : ∀ (H : Heap) (locs : List Loc) (ls : Array Slot), va_P D vwCl (wX9_bring cI cZ cM cS fa ta ln1 ln2 ff tf_3) H → va_D A (wX9_bring cI cZ cM cS fa ta ln1 ln2 ff tf_3) → va_S A s.heap H locs → lv_has ls 6 [] → W p l e (zRm 0 0) s m args below meth c H locs 0 0 Q (F0 m 28 ls []) := by
    intro H locs ls hP hD hS hl
    cases hF
    exact hRet _ _ _ _ dX9_bring_28 hP hD hS
  have lp3 : ∀ (n : Nat) (x5_2 : Int32) (tf_2 : (Nat → Int32)) (H : Heap) (locs : List Loc) (ls : Array Slot), olp (fX9_bring_s3 p4 p1 ln1 p3 ln2 ff) n (x5_2, tf_2) = some tf_3 → va_P D vwCl (wX9_bring cI cZ cM cS fa ta ln1 ln2 ff tf_2) H → va_D A (wX9_bring cI cZ cM cS fa ta ln1 ln2 ff tf_2) → va_S A s.heap H locs → lv_has ls 6 [(5, .int x5_2), (0, .ref fa), (1, .int p1), (2, .ref ta), (3, .int p3), (4, .int p4)] → W p l e (zRm 0 0) s m args below meth c H locs 0 0 Q (F0 m 3 ls []) := by
    intro n
    induction n with
    | zero => intro x5_2 tf_2 H locs ls hL; exact olp_0 hL
    | succ n ih =>
      intro x5_2 tf_2 H locs ls hL3 hP hD hS hl
      obtain ⟨z, hz3, hL3⟩ := olp_e hL3
      have hz3 : fX9_bring_b3 p4 p1 ln1 p3 ln2 ff x5_2 tf_2 = some z := hz3
      unfold fX9_bring_b3 at hz3
      refine lv_iload (pc := 3) hx hb dX9_bring_3 (lv_at hl 0 rfl) ?_
      refine lv_iload (pc := 5) hx hb dX9_bring_5 (lv_at hl 5 rfl) ?_
      refine lv_icmp_ge (pc := 7) (tgt := 28) hx hb dX9_bring_7 (by decide) (fun hc => ?_) (fun hc => ?_)
      · have hz3 := oif_t hz3 hc
        have hE := olp_r hz3 hL3
        cases hE
        exact ex3 _ _ _ hP hD hS (lv_sub hl [] rfl)
      · have hz3 := oif_f hz3 hc
        refine lv_aload_n (pc := 10) hx hb dX9_bring_10 rfl (lv_at hl 3 rfl) ?_
        refine lv_iload_n (pc := 11) hx hb dX9_bring_11 rfl (lv_at hl 4 rfl) ?_
        refine lv_iload (pc := 12) hx hb dX9_bring_12 (lv_at hl 0 rfl) ?_
        refine lv_iadd (pc := 14) hx hb dX9_bring_14 ?_
        refine lv_aload_n (pc := 15) hx hb dX9_bring_15 rfl (lv_at hl 1 rfl) ?_
        refine lv_iload_n (pc := 16) hx hb dX9_bring_16 rfl (lv_at hl 2 rfl) ?_
        refine lv_iload (pc := 17) hx hb dX9_bring_17 (lv_at hl 0 rfl) ?_
        refine lv_iadd (pc := 19) hx hb dX9_bring_19 ?_
        obtain ⟨hg4, hz3⟩ := ogd_e hz3
        refine va_iald (pc := 20) hx hb hK hP 0 0 rfl rfl hg4 dX9_bring_20 ?_
        obtain ⟨hg5, hz3⟩ := ogd_e hz3
        refine va_iast (pc := 21) hx hb hK hP hD hS 1 0 rfl rfl hg5 dX9_bring_21 (fun H locs hP hD hS => ?_)
        have hP : va_P D vwCl (wX9_bring cI cZ cM cS fa ta ln1 ln2 ff (upd tf_2 (Int32.toNatClampNeg (p3 + x5_2)) (ff (Int32.toNatClampNeg (p1 + x5_2))))) H := hP
        have hD : va_D A (wX9_bring cI cZ cM cS fa ta ln1 ln2 ff (upd tf_2 (Int32.toNatClampNeg (p3 + x5_2)) (ff (Int32.toNatClampNeg (p1 + x5_2))))) := hD
        refine lv_iinc (v := (x5_2 + (1 : Int32))) (lv' := [(5, .int (x5_2 + (1 : Int32))), (0, .ref fa), (1, .int p1), (2, .ref ta), (3, .int p3), (4, .int p4)]) (pc := 22) hx hb dX9_bring_22 hl (k := 0) rfl rfl (by decide) rfl (fun ls hl => ?_)
        refine lv_goto (pc := 25) (tgt := 3) hx hb dX9_bring_25 (by decide) ?_
        exact ih _ _ _ _ _ (olp_l hz3 hL3) hP hD hS (lv_sub hl [0, 1, 2, 3, 4, 5] rfl)
  exact lp3 oFu _ _ _ _ _ hL3 hP hD hS (lv_sub hl [0, 1, 2, 3, 4, 5] rfl)
def fX9_bring_same_b3 (p4 : Int32) (p1 : Int32) (ln1 : Nat) (p3 : Int32) (x5_2 : Int32) (ff_2 : (Nat → Int32)) : Option ((Int32 × (Nat → Int32)) ⊕ ((Nat → Int32))) := (if p4 ≤ x5_2 then (some (.inr ff_2)) else (ogd (p1 + x5_2) ln1 (ogd (p3 + x5_2) ln1 (some (.inl ((x5_2 + (1 : Int32)), (upd ff_2 (Int32.toNatClampNeg (p3 + x5_2)) (ff_2 (Int32.toNatClampNeg (p1 + x5_2))))))))))
def fX9_bring_same_s3 (p4 : Int32) (p1 : Int32) (ln1 : Nat) (p3 : Int32) (sg_ : Int32 × (Nat → Int32)) : Option ((Int32 × (Nat → Int32)) ⊕ ((Nat → Int32))) := fX9_bring_same_b3 p4 p1 ln1 p3 sg_.1 sg_.2
def fX9_bring_same (ln1 : Nat) (p1 : Int32) (p3 : Int32) (p4 : Int32) (ff : (Nat → Int32)) : Option ((Nat → Int32)) := (ob1 (olp (fX9_bring_same_s3 p4 p1 ln1 p3) oFu ((0 : Int32), ff)) (fun ff_3 => (some ff_3)))
abbrev wX9_bring_same (cI cZ cM cS : ClassId) (fa : Nat) (ln1 : Nat) (ff : (Nat → Int32)) : va_W := [(fa, .inl (cI, ln1, .inl ff))]
set_option maxHeartbeats 4000000 in
set_option maxRecDepth 100000 in
theorem tX9_bring_same (l : Launch) (D : va_G) (cI cZ cM cS : ClassId) (fa : Nat) (ln1 : Nat) (ff : (Nat → Int32)) (p1 : Int32) (p3 : Int32) (p4 : Int32) {ff' : (Nat → Int32)} (hF : fX9_bring_same ln1 p1 p3 p4 ff = some ff') : zCW l yX9_bring wsX9_bring (zRm 0 0) D (zTy cI cZ cM cS) [.ref fa, .int p1, .ref fa, .int p3, .int p4] (wX9_bring_same cI cZ cM cS fa ln1 ff) (wX9_bring_same cI cZ cM cS fa ln1 ff') none := by
  unfold fX9_bring_same at hF
  refine zCW_ofv (cc := cX9_bring) (maxL := 6) (own := RX9) (by decide) rfl rfl (Nat.le_of_ble_eq_true rfl) (fun p e s m args below meth c Q ls A E hA hK hP hD hRet hS hl => ?_)
  refine zgen (fun H locs hP hS => ?_) hP hS
  have hl : lv_has ls 6 [(0, .ref fa), (1, .int p1), (2, .ref fa), (3, .int p3), (4, .int p4)] := hl
  obtain ⟨hx, hb, hml, hown, hts⟩ := id E
  refine lv_iconst (v := (0 : Int32)) (pc := 0) hx hb dX9_bring_0 (by decide) ?_
  refine lv_istore (lv' := [(5, .int (0 : Int32)), (0, .ref fa), (1, .int p1), (2, .ref fa), (3, .int p3), (4, .int p4)]) (pc := 1) hx hb dX9_bring_1 hl (by decide) rfl (fun ls hl => ?_)
  obtain ⟨ff_3, hL3, hF⟩ := ob1_e hF
  have ex3 : ∀ (H : Heap) (locs : List Loc) (ls : Array Slot), va_P D vwCl (wX9_bring_same cI cZ cM cS fa ln1 ff_3) H → va_D A (wX9_bring_same cI cZ cM cS fa ln1 ff_3) → va_S A s.heap H locs → lv_has ls 6 [] → W p l e (zRm 0 0) s m args below meth c H locs 0 0 Q (F0 m 28 ls []) := by
    intro H locs ls hP hD hS hl
    cases hF
    exact hRet _ _ _ _ dX9_bring_28 hP hD hS
  have lp3 : ∀ (n : Nat) (x5_2 : Int32) (ff_2 : (Nat → Int32)) (H : Heap) (locs : List Loc) (ls : Array Slot), olp (fX9_bring_same_s3 p4 p1 ln1 p3) n (x5_2, ff_2) = some ff_3 → va_P D vwCl (wX9_bring_same cI cZ cM cS fa ln1 ff_2) H → va_D A (wX9_bring_same cI cZ cM cS fa ln1 ff_2) → va_S A s.heap H locs → lv_has ls 6 [(5, .int x5_2), (0, .ref fa), (1, .int p1), (2, .ref fa), (3, .int p3), (4, .int p4)] → W p l e (zRm 0 0) s m args below meth c H locs 0 0 Q (F0 m 3 ls []) := by
    intro n
    induction n with
    | zero => intro x5_2 ff_2 H locs ls hL; exact olp_0 hL
    | succ n ih =>
      intro x5_2 ff_2 H locs ls hL3 hP hD hS hl
      obtain ⟨z, hz3, hL3⟩ := olp_e hL3
      have hz3 : fX9_bring_same_b3 p4 p1 ln1 p3 x5_2 ff_2 = some z := hz3
      unfold fX9_bring_same_b3 at hz3
      refine lv_iload (pc := 3) hx hb dX9_bring_3 (lv_at hl 0 rfl) ?_
      refine lv_iload (pc := 5) hx hb dX9_bring_5 (lv_at hl 5 rfl) ?_
      refine lv_icmp_ge (pc := 7) (tgt := 28) hx hb dX9_bring_7 (by decide) (fun hc => ?_) (fun hc => ?_)
      · have hz3 := oif_t hz3 hc
        have hE := olp_r hz3 hL3
        cases hE
        exact ex3 _ _ _ hP hD hS (lv_sub hl [] rfl)
      · have hz3 := oif_f hz3 hc
        refine lv_aload_n (pc := 10) hx hb dX9_bring_10 rfl (lv_at hl 3 rfl) ?_
        refine lv_iload_n (pc := 11) hx hb dX9_bring_11 rfl (lv_at hl 4 rfl) ?_
        refine lv_iload (pc := 12) hx hb dX9_bring_12 (lv_at hl 0 rfl) ?_
        refine lv_iadd (pc := 14) hx hb dX9_bring_14 ?_
        refine lv_aload_n (pc := 15) hx hb dX9_bring_15 rfl (lv_at hl 1 rfl) ?_
        refine lv_iload_n (pc := 16) hx hb dX9_bring_16 rfl (lv_at hl 2 rfl) ?_
        refine lv_iload (pc := 17) hx hb dX9_bring_17 (lv_at hl 0 rfl) ?_
        refine lv_iadd (pc := 19) hx hb dX9_bring_19 ?_
        obtain ⟨hg4, hz3⟩ := ogd_e hz3
        refine va_iald (pc := 20) hx hb hK hP 0 0 rfl rfl hg4 dX9_bring_20 ?_
        obtain ⟨hg5, hz3⟩ := ogd_e hz3
        refine va_iast (pc := 21) hx hb hK hP hD hS 0 0 rfl rfl hg5 dX9_bring_21 (fun H locs hP hD hS => ?_)
        have hP : va_P D vwCl (wX9_bring_same cI cZ cM cS fa ln1 (upd ff_2 (Int32.toNatClampNeg (p3 + x5_2)) (ff_2 (Int32.toNatClampNeg (p1 + x5_2))))) H := hP
        have hD : va_D A (wX9_bring_same cI cZ cM cS fa ln1 (upd ff_2 (Int32.toNatClampNeg (p3 + x5_2)) (ff_2 (Int32.toNatClampNeg (p1 + x5_2))))) := hD
        refine lv_iinc (v := (x5_2 + (1 : Int32))) (lv' := [(5, .int (x5_2 + (1 : Int32))), (0, .ref fa), (1, .int p1), (2, .ref fa), (3, .int p3), (4, .int p4)]) (pc := 22) hx hb dX9_bring_22 hl (k := 0) rfl rfl (by decide) rfl (fun ls hl => ?_)
        refine lv_goto (pc := 25) (tgt := 3) hx hb dX9_bring_25 (by decide) ?_
        exact ih _ _ _ _ _ (olp_l hz3 hL3) hP hD hS (lv_sub hl [0, 1, 2, 3, 4, 5] rfl)
  exact lp3 oFu _ _ _ _ _ hL3 hP hD hS (lv_sub hl [0, 1, 2, 3, 4, 5] rfl)
def fX9_lays_b2  (x2_2 : Int32) (st_2 : (Nat → Int32)) : Option ((Int32 × (Nat → Int32)) ⊕ ((Nat → Int32))) := (if (76 : Int32) ≤ x2_2 then (some (.inr st_2)) else (ogd x2_2 76 (some (.inl ((x2_2 + (1 : Int32)), (upd st_2 (Int32.toNatClampNeg x2_2) (0 : Int32)))))))
def fX9_lays_s2  (sg_ : Int32 × (Nat → Int32)) : Option ((Int32 × (Nat → Int32)) ⊕ ((Nat → Int32))) := fX9_lays_b2  sg_.1 sg_.2
def fX9_lays_b45 (x2_4 : Int32) (x3_4 : Int32) (st_11 : (Nat → Int32)) : Option ((Int32 × (Nat → Int32)) ⊕ ((Nat → Int32))) := (if (3 : Int32) ≤ x3_4 then (some (.inr st_11)) else (ogd (((28 : Int32) + ((3 : Int32) * x2_4)) + x3_4) 76 (some (.inl ((x3_4 + (1 : Int32)), (upd st_11 (Int32.toNatClampNeg (((28 : Int32) + ((3 : Int32) * x2_4)) + x3_4)) x2_4))))))
def fX9_lays_s45 (x2_4 : Int32) (sg_ : Int32 × (Nat → Int32)) : Option ((Int32 × (Nat → Int32)) ⊕ ((Nat → Int32))) := fX9_lays_b45 x2_4 sg_.1 sg_.2
def fX9_lays_b37  (x2_4 : Int32) (st_8 : (Nat → Int32)) : Option ((Int32 × (Nat → Int32)) ⊕ ((Nat → Int32))) := (if (12 : Int32) ≤ x2_4 then (some (.inr st_8)) else (ob1 (olp (fX9_lays_s45 x2_4) oFu ((0 : Int32), st_8)) (fun st_12 => (some (.inl ((x2_4 + (1 : Int32)), st_12))))))
def fX9_lays_s37  (sg_ : Int32 × (Nat → Int32)) : Option ((Int32 × (Nat → Int32)) ⊕ ((Nat → Int32))) := fX9_lays_b37  sg_.1 sg_.2
def fX9_lays (p1 : Int32) (deeds : Int32) (sd : Int32) (ent : Int32) (st : (Nat → Int32)) : Option ((Nat → Int32)) := (ob1 (olp (fX9_lays_s2) oFu ((0 : Int32), st)) (fun st_3 => (ob1 (olp (fX9_lays_s37) oFu ((0 : Int32), (upd (upd st_3 0 p1) 1 (1 : Int32)))) (fun st_9 => (some st_9)))))
abbrev wX9_lays (cI cZ cM cS : ClassId) (mo mst mpa mim mik mbi mbk mnr mia min mas mpr mfa mme mse : Nat) (deeds : Int32) (sd : Int32) (ent : Int32) (st : (Nat → Int32)) : va_W := [(mo, .inr (9, [.ref mst, .ref mpa, .int deeds, .ref mim, .ref mik, .int sd, .ref mbi, .ref mbk, .int ent, .ref mnr, .ref mia, .ref min, .ref mas, .ref mpr, .ref mfa, .ref mme, .ref mse])), (mst, .inl (cI, 76, .inl st))]
set_option maxHeartbeats 4000000 in
set_option maxRecDepth 100000 in
theorem tX9_lays (l : Launch) (D : va_G) (cI cZ cM cS : ClassId) (mo mst mpa mim mik mbi mbk mnr mia min mas mpr mfa mme mse : Nat) (deeds : Int32) (sd : Int32) (ent : Int32) (st : (Nat → Int32)) (p1 : Int32) {st' : (Nat → Int32)} (hF : fX9_lays p1 deeds sd ent st = some st') : zCW l yX9_lays wsX9_lays (zRm 0 0) D (zTy cI cZ cM cS) [.ref mo, .int p1] (wX9_lays cI cZ cM cS mo mst mpa mim mik mbi mbk mnr mia min mas mpr mfa mme mse deeds sd ent st) (wX9_lays cI cZ cM cS mo mst mpa mim mik mbi mbk mnr mia min mas mpr mfa mme mse deeds sd ent st') none := by
  unfold fX9_lays at hF
  refine zCW_ofv (cc := cX9_lays) (maxL := 4) (own := RX9) (by decide) rfl rfl (Nat.le_of_ble_eq_true rfl) (fun p e s m args below meth c Q ls A E hA hK hP hD hRet hS hl => ?_)
  refine zgen (fun H locs hP hS => ?_) hP hS
  have hl : lv_has ls 4 [(0, .ref mo), (1, .int p1)] := hl
  obtain ⟨hx, hb, hml, hown, hts⟩ := id E
  have inX9 : ∀ w ∈ u_ws RX9 TX9 17, w ∈ wsX9_lays := by decide +kernel
  have fl7 := hts (.fieldLink RX9 7 "SplitClassesModel" "st" "[I") (by decide +kernel)
  refine lv_iconst (v := (0 : Int32)) (pc := 0) hx hb dX9_lays_0 (by decide) ?_
  refine lv_istore_n (lv' := [(2, .int (0 : Int32)), (0, .ref mo), (1, .int p1)]) (pc := 1) hx hb dX9_lays_1 rfl hl (by decide) rfl (fun ls hl => ?_)
  obtain ⟨st_3, hL2, hF⟩ := ob1_e hF
  have ex2 : ∀ (H : Heap) (locs : List Loc) (ls : Array Slot), va_P D vwCl (wX9_lays cI cZ cM cS mo mst mpa mim mik mbi mbk mnr mia min mas mpr mfa mme mse deeds sd ent st_3) H → va_D A (wX9_lays cI cZ cM cS mo mst mpa mim mik mbi mbk mnr mia min mas mpr mfa mme mse deeds sd ent st_3) → va_S A s.heap H locs → lv_has ls 4 [(0, .ref mo), (1, .int p1)] → W p l e (zRm 0 0) s m args below meth c H locs 0 0 Q (F0 m 21 ls []) := by
    intro H locs ls hP hD hS hl
    refine lv_aload_n (pc := 21) hx hb dX9_lays_21 rfl (lv_at hl 0 rfl) ?_
    refine va_get (pc := 22) (ci := 9) (C := RX9) (T := TX9) (N := 17) hx hb hts inX9 hown hK hP 0 rfl rfl 0 (by decide) fl7 (fun _ h9 => h9) rfl dX9_lays_22 ?_
    refine lv_iconst (v := (0 : Int32)) (pc := 25) hx hb dX9_lays_25 (by decide) ?_
    refine lv_iload_n (pc := 26) hx hb dX9_lays_26 rfl (lv_at hl 1 rfl) ?_
    refine z_iast (pc := 27) (k := 0) hx hb hK hP hD hS 1 0 rfl rfl (by decide) (by decide) dX9_lays_27 (fun H locs hP hD hS => ?_)
    have hP : va_P D vwCl (wX9_lays cI cZ cM cS mo mst mpa mim mik mbi mbk mnr mia min mas mpr mfa mme mse deeds sd ent (upd st_3 0 p1)) H := hP
    have hD : va_D A (wX9_lays cI cZ cM cS mo mst mpa mim mik mbi mbk mnr mia min mas mpr mfa mme mse deeds sd ent (upd st_3 0 p1)) := hD
    refine lv_aload_n (pc := 28) hx hb dX9_lays_28 rfl (lv_at hl 0 rfl) ?_
    refine va_get (pc := 29) (ci := 9) (C := RX9) (T := TX9) (N := 17) hx hb hts inX9 hown hK hP 0 rfl rfl 0 (by decide) fl7 (fun _ h9 => h9) rfl dX9_lays_29 ?_
    refine lv_iconst (v := (1 : Int32)) (pc := 32) hx hb dX9_lays_32 (by decide) ?_
    refine lv_iconst (v := (1 : Int32)) (pc := 33) hx hb dX9_lays_33 (by decide) ?_
    refine z_iast (pc := 34) (k := 1) hx hb hK hP hD hS 1 0 rfl rfl (by decide) (by decide) dX9_lays_34 (fun H locs hP hD hS => ?_)
    have hP : va_P D vwCl (wX9_lays cI cZ cM cS mo mst mpa mim mik mbi mbk mnr mia min mas mpr mfa mme mse deeds sd ent (upd (upd st_3 0 p1) 1 (1 : Int32))) H := hP
    have hD : va_D A (wX9_lays cI cZ cM cS mo mst mpa mim mik mbi mbk mnr mia min mas mpr mfa mme mse deeds sd ent (upd (upd st_3 0 p1) 1 (1 : Int32))) := hD
    refine lv_iconst (v := (0 : Int32)) (pc := 35) hx hb dX9_lays_35 (by decide) ?_
    refine lv_istore_n (lv' := [(2, .int (0 : Int32)), (0, .ref mo), (1, .int p1)]) (pc := 36) hx hb dX9_lays_36 rfl hl (by decide) rfl (fun ls hl => ?_)
    obtain ⟨st_9, hL7, hF⟩ := ob1_e hF
    have ex7 : ∀ (H : Heap) (locs : List Loc) (ls : Array Slot), va_P D vwCl (wX9_lays cI cZ cM cS mo mst mpa mim mik mbi mbk mnr mia min mas mpr mfa mme mse deeds sd ent st_9) H → va_D A (wX9_lays cI cZ cM cS mo mst mpa mim mik mbi mbk mnr mia min mas mpr mfa mme mse deeds sd ent st_9) → va_S A s.heap H locs → lv_has ls 4 [] → W p l e (zRm 0 0) s m args below meth c H locs 0 0 Q (F0 m 76 ls []) := by
      intro H locs ls hP hD hS hl
      cases hF
      exact hRet _ _ _ _ dX9_lays_76 hP hD hS
    have lp7 : ∀ (n : Nat) (x2_4 : Int32) (st_8 : (Nat → Int32)) (H : Heap) (locs : List Loc) (ls : Array Slot), olp (fX9_lays_s37) n (x2_4, st_8) = some st_9 → va_P D vwCl (wX9_lays cI cZ cM cS mo mst mpa mim mik mbi mbk mnr mia min mas mpr mfa mme mse deeds sd ent st_8) H → va_D A (wX9_lays cI cZ cM cS mo mst mpa mim mik mbi mbk mnr mia min mas mpr mfa mme mse deeds sd ent st_8) → va_S A s.heap H locs → lv_has ls 4 [(2, .int x2_4), (0, .ref mo)] → W p l e (zRm 0 0) s m args below meth c H locs 0 0 Q (F0 m 37 ls []) := by
      intro n
      induction n with
      | zero => intro x2_4 st_8 H locs ls hL; exact olp_0 hL
      | succ n ih =>
        intro x2_4 st_8 H locs ls hL7 hP hD hS hl
        obtain ⟨z, hz7, hL7⟩ := olp_e hL7
        have hz7 : fX9_lays_b37  x2_4 st_8 = some z := hz7
        unfold fX9_lays_b37 at hz7
        refine lv_iload_n (pc := 37) hx hb dX9_lays_37 rfl (lv_at hl 0 rfl) ?_
        refine lv_bipush (v := (12 : Int32)) (pc := 38) hx hb dX9_lays_38 (by decide) ?_
        refine lv_icmp_ge (pc := 40) (tgt := 76) hx hb dX9_lays_40 (by decide) (fun hc => ?_) (fun hc => ?_)
        · have hz7 := oif_t hz7 hc
          have hE := olp_r hz7 hL7
          cases hE
          exact ex7 _ _ _ hP hD hS (lv_sub hl [] rfl)
        · have hz7 := oif_f hz7 hc
          refine lv_iconst (v := (0 : Int32)) (pc := 43) hx hb dX9_lays_43 (by decide) ?_
          refine lv_istore_n (lv' := [(3, .int (0 : Int32)), (2, .int x2_4), (0, .ref mo)]) (pc := 44) hx hb dX9_lays_44 rfl hl (by decide) rfl (fun ls hl => ?_)
          obtain ⟨st_12, hL9, hz7⟩ := ob1_e hz7
          have ex9 : ∀ (H : Heap) (locs : List Loc) (ls : Array Slot), va_P D vwCl (wX9_lays cI cZ cM cS mo mst mpa mim mik mbi mbk mnr mia min mas mpr mfa mme mse deeds sd ent st_12) H → va_D A (wX9_lays cI cZ cM cS mo mst mpa mim mik mbi mbk mnr mia min mas mpr mfa mme mse deeds sd ent st_12) → va_S A s.heap H locs → lv_has ls 4 [(2, .int x2_4), (0, .ref mo)] → W p l e (zRm 0 0) s m args below meth c H locs 0 0 Q (F0 m 70 ls []) := by
            intro H locs ls hP hD hS hl
            refine lv_iinc (v := (x2_4 + (1 : Int32))) (lv' := [(2, .int (x2_4 + (1 : Int32))), (0, .ref mo)]) (pc := 70) hx hb dX9_lays_70 hl (k := 0) rfl rfl (by decide) rfl (fun ls hl => ?_)
            refine lv_goto (pc := 73) (tgt := 37) hx hb dX9_lays_73 (by decide) ?_
            exact ih _ _ _ _ _ (olp_l hz7 hL7) hP hD hS (lv_sub hl [0, 1] rfl)
          have lp9 : ∀ (n : Nat) (x3_4 : Int32) (st_11 : (Nat → Int32)) (H : Heap) (locs : List Loc) (ls : Array Slot), olp (fX9_lays_s45 x2_4) n (x3_4, st_11) = some st_12 → va_P D vwCl (wX9_lays cI cZ cM cS mo mst mpa mim mik mbi mbk mnr mia min mas mpr mfa mme mse deeds sd ent st_11) H → va_D A (wX9_lays cI cZ cM cS mo mst mpa mim mik mbi mbk mnr mia min mas mpr mfa mme mse deeds sd ent st_11) → va_S A s.heap H locs → lv_has ls 4 [(3, .int x3_4), (2, .int x2_4), (0, .ref mo)] → W p l e (zRm 0 0) s m args below meth c H locs 0 0 Q (F0 m 45 ls []) := by
            intro n
            induction n with
            | zero => intro x3_4 st_11 H locs ls hL; exact olp_0 hL
            | succ n ih =>
              intro x3_4 st_11 H locs ls hL9 hP hD hS hl
              obtain ⟨z, hz9, hL9⟩ := olp_e hL9
              have hz9 : fX9_lays_b45 x2_4 x3_4 st_11 = some z := hz9
              unfold fX9_lays_b45 at hz9
              refine lv_iload_n (pc := 45) hx hb dX9_lays_45 rfl (lv_at hl 0 rfl) ?_
              refine lv_iconst (v := (3 : Int32)) (pc := 46) hx hb dX9_lays_46 (by decide) ?_
              refine lv_icmp_ge (pc := 47) (tgt := 70) hx hb dX9_lays_47 (by decide) (fun hc => ?_) (fun hc => ?_)
              · have hz9 := oif_t hz9 hc
                have hE := olp_r hz9 hL9
                cases hE
                exact ex9 _ _ _ hP hD hS (lv_sub hl [1, 2] rfl)
              · have hz9 := oif_f hz9 hc
                refine lv_aload_n (pc := 50) hx hb dX9_lays_50 rfl (lv_at hl 2 rfl) ?_
                refine va_get (pc := 51) (ci := 9) (C := RX9) (T := TX9) (N := 17) hx hb hts inX9 hown hK hP 0 rfl rfl 0 (by decide) fl7 (fun _ h9 => h9) rfl dX9_lays_51 ?_
                refine lv_bipush (v := (28 : Int32)) (pc := 54) hx hb dX9_lays_54 (by decide) ?_
                refine lv_iconst (v := (3 : Int32)) (pc := 56) hx hb dX9_lays_56 (by decide) ?_
                refine lv_iload_n (pc := 57) hx hb dX9_lays_57 rfl (lv_at hl 1 rfl) ?_
                refine lv_imul (pc := 58) hx hb dX9_lays_58 ?_
                refine lv_iadd (pc := 59) hx hb dX9_lays_59 ?_
                refine lv_iload_n (pc := 60) hx hb dX9_lays_60 rfl (lv_at hl 0 rfl) ?_
                refine lv_iadd (pc := 61) hx hb dX9_lays_61 ?_
                refine lv_iload_n (pc := 62) hx hb dX9_lays_62 rfl (lv_at hl 1 rfl) ?_
                obtain ⟨hg10, hz9⟩ := ogd_e hz9
                refine va_iast (pc := 63) hx hb hK hP hD hS 1 0 rfl rfl hg10 dX9_lays_63 (fun H locs hP hD hS => ?_)
                have hP : va_P D vwCl (wX9_lays cI cZ cM cS mo mst mpa mim mik mbi mbk mnr mia min mas mpr mfa mme mse deeds sd ent (upd st_11 (Int32.toNatClampNeg (((28 : Int32) + ((3 : Int32) * x2_4)) + x3_4)) x2_4)) H := hP
                have hD : va_D A (wX9_lays cI cZ cM cS mo mst mpa mim mik mbi mbk mnr mia min mas mpr mfa mme mse deeds sd ent (upd st_11 (Int32.toNatClampNeg (((28 : Int32) + ((3 : Int32) * x2_4)) + x3_4)) x2_4)) := hD
                refine lv_iinc (v := (x3_4 + (1 : Int32))) (lv' := [(3, .int (x3_4 + (1 : Int32))), (2, .int x2_4), (0, .ref mo)]) (pc := 64) hx hb dX9_lays_64 hl (k := 0) rfl rfl (by decide) rfl (fun ls hl => ?_)
                refine lv_goto (pc := 67) (tgt := 45) hx hb dX9_lays_67 (by decide) ?_
                exact ih _ _ _ _ _ (olp_l hz9 hL9) hP hD hS (lv_sub hl [0, 1, 2] rfl)
          exact lp9 oFu _ _ _ _ _ hL9 hP hD hS (lv_sub hl [0, 1, 2] rfl)
    exact lp7 oFu _ _ _ _ _ hL7 hP hD hS (lv_sub hl [0, 1] rfl)
  have lp2 : ∀ (n : Nat) (x2_2 : Int32) (st_2 : (Nat → Int32)) (H : Heap) (locs : List Loc) (ls : Array Slot), olp (fX9_lays_s2) n (x2_2, st_2) = some st_3 → va_P D vwCl (wX9_lays cI cZ cM cS mo mst mpa mim mik mbi mbk mnr mia min mas mpr mfa mme mse deeds sd ent st_2) H → va_D A (wX9_lays cI cZ cM cS mo mst mpa mim mik mbi mbk mnr mia min mas mpr mfa mme mse deeds sd ent st_2) → va_S A s.heap H locs → lv_has ls 4 [(2, .int x2_2), (0, .ref mo), (1, .int p1)] → W p l e (zRm 0 0) s m args below meth c H locs 0 0 Q (F0 m 2 ls []) := by
    intro n
    induction n with
    | zero => intro x2_2 st_2 H locs ls hL; exact olp_0 hL
    | succ n ih =>
      intro x2_2 st_2 H locs ls hL2 hP hD hS hl
      obtain ⟨z, hz2, hL2⟩ := olp_e hL2
      have hz2 : fX9_lays_b2  x2_2 st_2 = some z := hz2
      unfold fX9_lays_b2 at hz2
      refine lv_iload_n (pc := 2) hx hb dX9_lays_2 rfl (lv_at hl 0 rfl) ?_
      refine lv_bipush (v := (76 : Int32)) (pc := 3) hx hb dX9_lays_3 (by decide) ?_
      refine lv_icmp_ge (pc := 5) (tgt := 21) hx hb dX9_lays_5 (by decide) (fun hc => ?_) (fun hc => ?_)
      · have hz2 := oif_t hz2 hc
        have hE := olp_r hz2 hL2
        cases hE
        exact ex2 _ _ _ hP hD hS (lv_sub hl [1, 2] rfl)
      · have hz2 := oif_f hz2 hc
        refine lv_aload_n (pc := 8) hx hb dX9_lays_8 rfl (lv_at hl 1 rfl) ?_
        refine va_get (pc := 9) (ci := 9) (C := RX9) (T := TX9) (N := 17) hx hb hts inX9 hown hK hP 0 rfl rfl 0 (by decide) fl7 (fun _ h9 => h9) rfl dX9_lays_9 ?_
        refine lv_iload_n (pc := 12) hx hb dX9_lays_12 rfl (lv_at hl 0 rfl) ?_
        refine lv_iconst (v := (0 : Int32)) (pc := 13) hx hb dX9_lays_13 (by decide) ?_
        obtain ⟨hg3, hz2⟩ := ogd_e hz2
        refine va_iast (pc := 14) hx hb hK hP hD hS 1 0 rfl rfl hg3 dX9_lays_14 (fun H locs hP hD hS => ?_)
        have hP : va_P D vwCl (wX9_lays cI cZ cM cS mo mst mpa mim mik mbi mbk mnr mia min mas mpr mfa mme mse deeds sd ent (upd st_2 (Int32.toNatClampNeg x2_2) (0 : Int32))) H := hP
        have hD : va_D A (wX9_lays cI cZ cM cS mo mst mpa mim mik mbi mbk mnr mia min mas mpr mfa mme mse deeds sd ent (upd st_2 (Int32.toNatClampNeg x2_2) (0 : Int32))) := hD
        refine lv_iinc (v := (x2_2 + (1 : Int32))) (lv' := [(2, .int (x2_2 + (1 : Int32))), (0, .ref mo), (1, .int p1)]) (pc := 15) hx hb dX9_lays_15 hl (k := 0) rfl rfl (by decide) rfl (fun ls hl => ?_)
        refine lv_goto (pc := 18) (tgt := 2) hx hb dX9_lays_18 (by decide) ?_
        exact ih _ _ _ _ _ (olp_l hz2 hL2) hP hD hS (lv_sub hl [0, 1, 2] rfl)
  exact lp2 oFu _ _ _ _ _ hL2 hP hD hS (lv_sub hl [0, 1, 2] rfl)
def fX9_isItem (p1 : Int32) (deeds : Int32) (sd : Int32) (ent : Int32) (st : (Nat → Int32)) : Option (Int32) := (ob1 (fX9_in p1 (0 : Int32) ((st 0) - (1 : Int32))) (fun r_1 => (obl r_1 (some r_1))))
abbrev wX9_isItem (cI cZ cM cS : ClassId) (mo mst mpa mim mik mbi mbk mnr mia min mas mpr mfa mme mse : Nat) (deeds : Int32) (sd : Int32) (ent : Int32) (st : (Nat → Int32)) : va_W := [(mo, .inr (9, [.ref mst, .ref mpa, .int deeds, .ref mim, .ref mik, .int sd, .ref mbi, .ref mbk, .int ent, .ref mnr, .ref mia, .ref min, .ref mas, .ref mpr, .ref mfa, .ref mme, .ref mse])), (mst, .inl (cI, 76, .inl st))]
set_option maxHeartbeats 4000000 in
set_option maxRecDepth 100000 in
theorem tX9_isItem (l : Launch) (D : va_G) (cI cZ cM cS : ClassId) (mo mst mpa mim mik mbi mbk mnr mia min mas mpr mfa mme mse : Nat) (deeds : Int32) (sd : Int32) (ent : Int32) (st : (Nat → Int32)) (p1 : Int32) {r : Int32} (hF : fX9_isItem p1 deeds sd ent st = some r) : zCR l yX9_isItem wsX9_isItem (zRm 1 22) D (zTy cI cZ cM cS) [.ref mo, .int p1] (wX9_isItem cI cZ cM cS mo mst mpa mim mik mbi mbk mnr mia min mas mpr mfa mme mse deeds sd ent st) r := by
  unfold fX9_isItem at hF
  refine zCR_of (cc := cX9_isItem) (maxL := 2) (own := RX9) (by decide +kernel) rfl rfl (Nat.le_of_ble_eq_true rfl) (fun p e s m args below meth c Q ls E hK hP hRet hl => ?_)
  have hl : lv_has ls 2 [(0, .ref mo), (1, .int p1)] := hl
  obtain ⟨hx, hb, hml, hown, hts⟩ := id E
  have inX9 : ∀ w ∈ u_ws RX9 TX9 17, w ∈ wsX9_isItem := by decide +kernel
  have fl7 := hts (.fieldLink RX9 7 "SplitClassesModel" "st" "[I") (by decide +kernel)
  refine lv_iload_n (pc := 0) hx hb dX9_isItem_0 rfl (lv_at hl 1 rfl) ?_
  refine lv_iconst (v := (0 : Int32)) (pc := 1) hx hb dX9_isItem_1 (by decide) ?_
  refine lv_aload_n (pc := 2) hx hb dX9_isItem_2 rfl (lv_at hl 0 rfl) ?_
  refine va_get (pc := 3) (ci := 9) (C := RX9) (T := TX9) (N := 17) hx hb hts inX9 hown hK hP 0 rfl rfl 0 (by decide) fl7 (fun _ h9 => h9) rfl dX9_isItem_3 ?_
  refine lv_iconst (v := (0 : Int32)) (pc := 6) hx hb dX9_isItem_6 (by decide) ?_
  refine z_iald (pc := 7) (k := 0) hx hb hK hP 1 0 rfl rfl (by decide) (by decide) dX9_isItem_7 ?_
  refine lv_iconst (v := (1 : Int32)) (pc := 8) hx hb dX9_isItem_8 (by decide) ?_
  refine lv_isub (pc := 9) hx hb dX9_isItem_9 ?_
  obtain ⟨r_1, hC1, hF⟩ := ob1_e hF
  refine zSr (pc := 10) (As := [.int p1, .int (0 : Int32), .int ((st 0) - (1 : Int32))]) (rest := []) E (tX9_in l D cI cZ cM cS p1 (0 : Int32) ((st 0) - (1 : Int32)) hC1) 3 gX9_isItem_X9_in rfl rfl rfl (by decide +kernel) ⟨Nat.le_of_ble_eq_true rfl, Nat.le_of_ble_eq_true rfl⟩ hK hP [] rfl rfl hl.1 rfl (Nat.le_of_ble_eq_true rfl) dX9_isItem_10 ⟨Nat.zero_le _, Nat.zero_le _⟩ ?_
  obtain ⟨hb2, hF⟩ := obl_e hF
  cases hF
  exact hRet _ _ hb2 dX9_isItem_13
def fX9_isSet (p1 : Int32) (deeds : Int32) (sd : Int32) (ent : Int32) (st : (Nat → Int32)) : Option (Int32) := (ob1 (fX9_in p1 (0 : Int32) (((1 : Int32) <<< ((st 0) &&& 31)) - (1 : Int32))) (fun r_1 => (obl r_1 (some r_1))))
abbrev wX9_isSet (cI cZ cM cS : ClassId) (mo mst mpa mim mik mbi mbk mnr mia min mas mpr mfa mme mse : Nat) (deeds : Int32) (sd : Int32) (ent : Int32) (st : (Nat → Int32)) : va_W := [(mo, .inr (9, [.ref mst, .ref mpa, .int deeds, .ref mim, .ref mik, .int sd, .ref mbi, .ref mbk, .int ent, .ref mnr, .ref mia, .ref min, .ref mas, .ref mpr, .ref mfa, .ref mme, .ref mse])), (mst, .inl (cI, 76, .inl st))]
set_option maxHeartbeats 4000000 in
set_option maxRecDepth 100000 in
theorem tX9_isSet (l : Launch) (D : va_G) (cI cZ cM cS : ClassId) (mo mst mpa mim mik mbi mbk mnr mia min mas mpr mfa mme mse : Nat) (deeds : Int32) (sd : Int32) (ent : Int32) (st : (Nat → Int32)) (p1 : Int32) {r : Int32} (hF : fX9_isSet p1 deeds sd ent st = some r) : zCR l yX9_isSet wsX9_isSet (zRm 1 22) D (zTy cI cZ cM cS) [.ref mo, .int p1] (wX9_isSet cI cZ cM cS mo mst mpa mim mik mbi mbk mnr mia min mas mpr mfa mme mse deeds sd ent st) r := by
  unfold fX9_isSet at hF
  refine zCR_of (cc := cX9_isSet) (maxL := 2) (own := RX9) (by decide +kernel) rfl rfl (Nat.le_of_ble_eq_true rfl) (fun p e s m args below meth c Q ls E hK hP hRet hl => ?_)
  have hl : lv_has ls 2 [(0, .ref mo), (1, .int p1)] := hl
  obtain ⟨hx, hb, hml, hown, hts⟩ := id E
  have inX9 : ∀ w ∈ u_ws RX9 TX9 17, w ∈ wsX9_isSet := by decide +kernel
  have fl7 := hts (.fieldLink RX9 7 "SplitClassesModel" "st" "[I") (by decide +kernel)
  refine lv_iload_n (pc := 0) hx hb dX9_isSet_0 rfl (lv_at hl 1 rfl) ?_
  refine lv_iconst (v := (0 : Int32)) (pc := 1) hx hb dX9_isSet_1 (by decide) ?_
  refine lv_iconst (v := (1 : Int32)) (pc := 2) hx hb dX9_isSet_2 (by decide) ?_
  refine lv_aload_n (pc := 3) hx hb dX9_isSet_3 rfl (lv_at hl 0 rfl) ?_
  refine va_get (pc := 4) (ci := 9) (C := RX9) (T := TX9) (N := 17) hx hb hts inX9 hown hK hP 0 rfl rfl 0 (by decide) fl7 (fun _ h9 => h9) rfl dX9_isSet_4 ?_
  refine lv_iconst (v := (0 : Int32)) (pc := 7) hx hb dX9_isSet_7 (by decide) ?_
  refine z_iald (pc := 8) (k := 0) hx hb hK hP 1 0 rfl rfl (by decide) (by decide) dX9_isSet_8 ?_
  refine lv_ishl (pc := 9) hx hb dX9_isSet_9 ?_
  refine lv_iconst (v := (1 : Int32)) (pc := 10) hx hb dX9_isSet_10 (by decide) ?_
  refine lv_isub (pc := 11) hx hb dX9_isSet_11 ?_
  obtain ⟨r_1, hC1, hF⟩ := ob1_e hF
  refine zSr (pc := 12) (As := [.int p1, .int (0 : Int32), .int (((1 : Int32) <<< ((st 0) &&& 31)) - (1 : Int32))]) (rest := []) E (tX9_in l D cI cZ cM cS p1 (0 : Int32) (((1 : Int32) <<< ((st 0) &&& 31)) - (1 : Int32)) hC1) 3 gX9_isSet_X9_in rfl rfl rfl (by decide +kernel) ⟨Nat.le_of_ble_eq_true rfl, Nat.le_of_ble_eq_true rfl⟩ hK hP [] rfl rfl hl.1 rfl (Nat.le_of_ble_eq_true rfl) dX9_isSet_12 ⟨Nat.zero_le _, Nat.zero_le _⟩ ?_
  obtain ⟨hb2, hF⟩ := obl_e hF
  cases hF
  exact hRet _ _ hb2 dX9_isSet_15
def fX9_notes (deeds : Int32) (sd : Int32) (ent : Int32) (st : (Nat → Int32)) (past : (Nat → Int32)) : Option (Int32 × (Nat → Int32)) := (ob2 (if deeds = (16 : Int32) then (ob1 (fX9_bring_same 1216 (76 : Int32) (0 : Int32) (1140 : Int32) past) (fun past_4 => (some ((deeds - (1 : Int32)), past_4)))) else (some (deeds, past))) (fun deeds_1 past_2 => (ob1 (fX9_bring 76 1216 (0 : Int32) ((76 : Int32) * deeds_1) (76 : Int32) st past_2) (fun past_3 => (some ((deeds_1 + (1 : Int32)), past_3))))))
abbrev wX9_notes (cI cZ cM cS : ClassId) (mo mst mpa mim mik mbi mbk mnr mia min mas mpr mfa mme mse : Nat) (deeds : Int32) (sd : Int32) (ent : Int32) (st : (Nat → Int32)) (past : (Nat → Int32)) : va_W := [(mo, .inr (9, [.ref mst, .ref mpa, .int deeds, .ref mim, .ref mik, .int sd, .ref mbi, .ref mbk, .int ent, .ref mnr, .ref mia, .ref min, .ref mas, .ref mpr, .ref mfa, .ref mme, .ref mse])), (mst, .inl (cI, 76, .inl st)), (mpa, .inl (cI, 1216, .inl past))]
set_option maxHeartbeats 4000000 in
set_option maxRecDepth 100000 in
theorem tX9_notes (l : Launch) (D : va_G) (cI cZ cM cS : ClassId) (mo mst mpa mim mik mbi mbk mnr mia min mas mpr mfa mme mse : Nat) (deeds : Int32) (sd : Int32) (ent : Int32) (st : (Nat → Int32)) (past : (Nat → Int32)) {deeds' : Int32} {past' : (Nat → Int32)} (hF : fX9_notes deeds sd ent st past = some (deeds', past')) : zCW l yX9_notes wsX9_notes (zRm 1 25) D (zTy cI cZ cM cS) [.ref mo] (wX9_notes cI cZ cM cS mo mst mpa mim mik mbi mbk mnr mia min mas mpr mfa mme mse deeds sd ent st past) (wX9_notes cI cZ cM cS mo mst mpa mim mik mbi mbk mnr mia min mas mpr mfa mme mse deeds' sd ent st past') none := by
  unfold fX9_notes at hF
  refine zCW_ofv (cc := cX9_notes) (maxL := 1) (own := RX9) (by decide) rfl rfl (Nat.le_of_ble_eq_true rfl) (fun p e s m args below meth c Q ls A E hA hK hP hD hRet hS hl => ?_)
  refine zgen (fun H locs hP hS => ?_) hP hS
  have hl : lv_has ls 1 [(0, .ref mo)] := hl
  obtain ⟨hx, hb, hml, hown, hts⟩ := id E
  have inX9 : ∀ w ∈ u_ws RX9 TX9 17, w ∈ wsX9_notes := by decide +kernel
  have fl13 := hts (.fieldLink RX9 13 "SplitClassesModel" "past" "[I") (by decide +kernel)
  have fl61 := hts (.fieldLink RX9 61 "SplitClassesModel" "deeds" "I") (by decide +kernel)
  have fl7 := hts (.fieldLink RX9 7 "SplitClassesModel" "st" "[I") (by decide +kernel)
  refine lv_aload_n (pc := 0) hx hb dX9_notes_0 rfl (lv_at hl 0 rfl) ?_
  refine va_get (pc := 1) (ci := 9) (C := RX9) (T := TX9) (N := 17) hx hb hts inX9 hown hK hP 0 rfl rfl 2 (by decide) fl61 (fun _ h9 => h9) rfl dX9_notes_1 ?_
  refine lv_bipush (v := (16 : Int32)) (pc := 4) hx hb dX9_notes_4 (by decide) ?_
  obtain ⟨deeds_1, past_2, hM2, hF⟩ := ob2_e hF
  have jn2 : ∀ (H : Heap) (locs : List Loc) (ls : Array Slot), va_P D vwCl (wX9_notes cI cZ cM cS mo mst mpa mim mik mbi mbk mnr mia min mas mpr mfa mme mse deeds_1 sd ent st past_2) H → va_D A (wX9_notes cI cZ cM cS mo mst mpa mim mik mbi mbk mnr mia min mas mpr mfa mme mse deeds_1 sd ent st past_2) → va_S A s.heap H locs → lv_has ls 1 [(0, .ref mo)] → W p l e (zRm 1 25) s m args below meth c H locs 0 0 Q (F0 m 36 ls []) := by
    intro H locs ls hP hD hS hl
    refine lv_aload_n (pc := 36) hx hb dX9_notes_36 rfl (lv_at hl 0 rfl) ?_
    refine va_get (pc := 37) (ci := 9) (C := RX9) (T := TX9) (N := 17) hx hb hts inX9 hown hK hP 0 rfl rfl 0 (by decide) fl7 (fun _ h9 => h9) rfl dX9_notes_37 ?_
    refine lv_iconst (v := (0 : Int32)) (pc := 40) hx hb dX9_notes_40 (by decide) ?_
    refine lv_aload_n (pc := 41) hx hb dX9_notes_41 rfl (lv_at hl 0 rfl) ?_
    refine va_get (pc := 42) (ci := 9) (C := RX9) (T := TX9) (N := 17) hx hb hts inX9 hown hK hP 0 rfl rfl 1 (by decide) fl13 (fun _ h9 => h9) rfl dX9_notes_42 ?_
    refine lv_bipush (v := (76 : Int32)) (pc := 45) hx hb dX9_notes_45 (by decide) ?_
    refine lv_aload_n (pc := 47) hx hb dX9_notes_47 rfl (lv_at hl 0 rfl) ?_
    refine va_get (pc := 48) (ci := 9) (C := RX9) (T := TX9) (N := 17) hx hb hts inX9 hown hK hP 0 rfl rfl 2 (by decide) fl61 (fun _ h9 => h9) rfl dX9_notes_48 ?_
    refine lv_imul (pc := 51) hx hb dX9_notes_51 ?_
    refine lv_bipush (v := (76 : Int32)) (pc := 52) hx hb dX9_notes_52 (by decide) ?_
    obtain ⟨past_3, hC3, hF⟩ := ob1_e hF
    refine zS (pc := 54) (As := [.ref mst, .int (0 : Int32), .ref mpa, .int ((76 : Int32) * deeds_1), .int (76 : Int32)]) (rest := []) (wr := [(mo, .inr (9, [.ref mst, .ref mpa, .int deeds_1, .ref mim, .ref mik, .int sd, .ref mbi, .ref mbk, .int ent, .ref mnr, .ref mia, .ref min, .ref mas, .ref mpr, .ref mfa, .ref mme, .ref mse]))]) (w2 := (wX9_notes cI cZ cM cS mo mst mpa mim mik mbi mbk mnr mia min mas mpr mfa mme mse deeds_1 sd ent st past_3)) E (tX9_bring l D cI cZ cM cS mst mpa 76 1216 st past_2 (0 : Int32) ((76 : Int32) * deeds_1) (76 : Int32) hC3) 5 gX9_notes_X9_bring rfl rfl rfl (by decide +kernel) ⟨Nat.le_of_ble_eq_true rfl, Nat.le_of_ble_eq_true rfl⟩ hK hP hD hS hA [1, 2] [0] [0, 1, 2] (by decide) rfl rfl (by decide) (by decide) rfl (by decide) rfl hl.1 rfl (Nat.le_of_ble_eq_true rfl) dX9_notes_54 ⟨Nat.zero_le _, Nat.zero_le _⟩ (fun H locs hP hD hS => ?_)
    refine W.eq (g2 := F0 m 57 ls []) rfl ?_
    refine lv_aload_n (pc := 57) hx hb dX9_notes_57 rfl (lv_at hl 0 rfl) ?_
    refine lv_dup (pc := 58) hx hb dX9_notes_58 rfl ?_
    refine va_get (pc := 59) (ci := 9) (C := RX9) (T := TX9) (N := 17) hx hb hts inX9 hown hK hP 0 rfl rfl 2 (by decide) fl61 (fun _ h9 => h9) rfl dX9_notes_59 ?_
    refine lv_iconst (v := (1 : Int32)) (pc := 62) hx hb dX9_notes_62 (by decide) ?_
    refine lv_iadd (pc := 63) hx hb dX9_notes_63 ?_
    refine va_put (pc := 64) (D := D) (ci := 9) (v := .int (deeds_1 + (1 : Int32))) (ty := .int) (C := RX9) (T := TX9) (N := 17) hx hb hts inX9 tyX9 tyX9_ok nmX9 hown hK hP hD hS 0 rfl rfl 2 (by decide) fl61 (fun _ h9 => h9) rfl (by decide +kernel) rfl rfl (Nat.le_of_ble_eq_true rfl) dX9_notes_64 (fun H locs hP hD hS => ?_)
    have hP : va_P D vwCl (wX9_notes cI cZ cM cS mo mst mpa mim mik mbi mbk mnr mia min mas mpr mfa mme mse (deeds_1 + (1 : Int32)) sd ent st past_3) H := hP
    have hD : va_D A (wX9_notes cI cZ cM cS mo mst mpa mim mik mbi mbk mnr mia min mas mpr mfa mme mse (deeds_1 + (1 : Int32)) sd ent st past_3) := hD
    cases hF
    exact hRet _ _ _ _ dX9_notes_67 hP hD hS
  refine lv_icmp_ne (pc := 6) (tgt := 36) hx hb dX9_notes_6 (by decide) (fun hc => ?_) (fun hc => ?_)
  · have hM2 := oif_f hM2 hc
    cases hM2
    exact jn2 _ _ _ hP hD hS (lv_sub hl [0] rfl)
  · have hM2 := oif_t hM2 hc
    refine lv_aload_n (pc := 9) hx hb dX9_notes_9 rfl (lv_at hl 0 rfl) ?_
    refine va_get (pc := 10) (ci := 9) (C := RX9) (T := TX9) (N := 17) hx hb hts inX9 hown hK hP 0 rfl rfl 1 (by decide) fl13 (fun _ h9 => h9) rfl dX9_notes_10 ?_
    refine lv_bipush (v := (76 : Int32)) (pc := 13) hx hb dX9_notes_13 (by decide) ?_
    refine lv_aload_n (pc := 15) hx hb dX9_notes_15 rfl (lv_at hl 0 rfl) ?_
    refine va_get (pc := 16) (ci := 9) (C := RX9) (T := TX9) (N := 17) hx hb hts inX9 hown hK hP 0 rfl rfl 1 (by decide) fl13 (fun _ h9 => h9) rfl dX9_notes_16 ?_
    refine lv_iconst (v := (0 : Int32)) (pc := 19) hx hb dX9_notes_19 (by decide) ?_
    refine lv_sipush (v := (1140 : Int32)) (pc := 20) hx hb dX9_notes_20 (by decide) ?_
    obtain ⟨past_4, hC4, hM2⟩ := ob1_e hM2
    refine zS (pc := 23) (As := [.ref mpa, .int (76 : Int32), .ref mpa, .int (0 : Int32), .int (1140 : Int32)]) (rest := []) (wr := [(mo, .inr (9, [.ref mst, .ref mpa, .int deeds, .ref mim, .ref mik, .int sd, .ref mbi, .ref mbk, .int ent, .ref mnr, .ref mia, .ref min, .ref mas, .ref mpr, .ref mfa, .ref mme, .ref mse])), (mst, .inl (cI, 76, .inl st))]) (w2 := (wX9_notes cI cZ cM cS mo mst mpa mim mik mbi mbk mnr mia min mas mpr mfa mme mse deeds sd ent st past_4)) E (tX9_bring_same l D cI cZ cM cS mpa 1216 past (76 : Int32) (0 : Int32) (1140 : Int32) hC4) 5 gX9_notes_X9_bring rfl rfl rfl (by decide +kernel) ⟨Nat.le_of_ble_eq_true rfl, Nat.le_of_ble_eq_true rfl⟩ hK hP hD hS hA [2] [0, 1] [0, 1, 2] (by decide) rfl rfl (by decide) (by decide) rfl (by decide) rfl hl.1 rfl (Nat.le_of_ble_eq_true rfl) dX9_notes_23 ⟨Nat.zero_le _, Nat.zero_le _⟩ (fun H locs hP hD hS => ?_)
    refine W.eq (g2 := F0 m 26 ls []) rfl ?_
    refine lv_aload_n (pc := 26) hx hb dX9_notes_26 rfl (lv_at hl 0 rfl) ?_
    refine lv_dup (pc := 27) hx hb dX9_notes_27 rfl ?_
    refine va_get (pc := 28) (ci := 9) (C := RX9) (T := TX9) (N := 17) hx hb hts inX9 hown hK hP 0 rfl rfl 2 (by decide) fl61 (fun _ h9 => h9) rfl dX9_notes_28 ?_
    refine lv_iconst (v := (1 : Int32)) (pc := 31) hx hb dX9_notes_31 (by decide) ?_
    refine lv_isub (pc := 32) hx hb dX9_notes_32 ?_
    refine va_put (pc := 33) (D := D) (ci := 9) (v := .int (deeds - (1 : Int32))) (ty := .int) (C := RX9) (T := TX9) (N := 17) hx hb hts inX9 tyX9 tyX9_ok nmX9 hown hK hP hD hS 0 rfl rfl 2 (by decide) fl61 (fun _ h9 => h9) rfl (by decide +kernel) rfl rfl (Nat.le_of_ble_eq_true rfl) dX9_notes_33 (fun H locs hP hD hS => ?_)
    have hP : va_P D vwCl (wX9_notes cI cZ cM cS mo mst mpa mim mik mbi mbk mnr mia min mas mpr mfa mme mse (deeds - (1 : Int32)) sd ent st past_4) H := hP
    have hD : va_D A (wX9_notes cI cZ cM cS mo mst mpa mim mik mbi mbk mnr mia min mas mpr mfa mme mse (deeds - (1 : Int32)) sd ent st past_4) := hD
    cases hM2
    exact jn2 _ _ _ hP hD hS (lv_sub hl [0] rfl)
def fX9_classes_b5 (st : (Nat → Int32)) (p2 : Int32) (x4_2 : Int32) (x3_2 : Int32) : Option ((Int32 × Int32) ⊕ (Int32)) := (if (st 0) ≤ x4_2 then (some (.inr x3_2)) else (ogd (p2 + x4_2) 76 (if (st (Int32.toNatClampNeg (p2 + x4_2))) ≤ x3_2 then (some (.inl ((x4_2 + (1 : Int32)), x3_2))) else (ogd (p2 + x4_2) 76 (some (.inl ((x4_2 + (1 : Int32)), (st (Int32.toNatClampNeg (p2 + x4_2))))))))))
def fX9_classes_s5 (st : (Nat → Int32)) (p2 : Int32) (sg_ : Int32 × Int32) : Option ((Int32 × Int32) ⊕ (Int32)) := fX9_classes_b5 st p2 sg_.1 sg_.2
def fX9_classes (p2 : Int32) (deeds : Int32) (sd : Int32) (ent : Int32) (st : (Nat → Int32)) : Option (Int32) := (ob1 (olp (fX9_classes_s5 st p2) oFu ((0 : Int32), (-1 : Int32))) (fun x3_3 => (some (x3_3 + (1 : Int32)))))
abbrev wX9_classes (cI cZ cM cS : ClassId) (mo mst mpa mim mik mbi mbk mnr mia min mas mpr mfa mme mse : Nat) (deeds : Int32) (sd : Int32) (ent : Int32) (st : (Nat → Int32)) : va_W := [(mo, .inr (9, [.ref mst, .ref mpa, .int deeds, .ref mim, .ref mik, .int sd, .ref mbi, .ref mbk, .int ent, .ref mnr, .ref mia, .ref min, .ref mas, .ref mpr, .ref mfa, .ref mme, .ref mse])), (mst, .inl (cI, 76, .inl st))]
set_option maxHeartbeats 4000000 in
set_option maxRecDepth 100000 in
theorem tX9_classes (l : Launch) (D : va_G) (cI cZ cM cS : ClassId) (mo mst mpa mim mik mbi mbk mnr mia min mas mpr mfa mme mse : Nat) (deeds : Int32) (sd : Int32) (ent : Int32) (st : (Nat → Int32)) (p2 : Int32) {r : Int32} (hF : fX9_classes p2 deeds sd ent st = some r) : zCR l yX9_classes wsX9_classes (zRm 0 0) D (zTy cI cZ cM cS) [.ref mo, .ref mst, .int p2] (wX9_classes cI cZ cM cS mo mst mpa mim mik mbi mbk mnr mia min mas mpr mfa mme mse deeds sd ent st) r := by
  unfold fX9_classes at hF
  refine zCR_of (cc := cX9_classes) (maxL := 5) (own := RX9) (by decide +kernel) rfl rfl (Nat.le_of_ble_eq_true rfl) (fun p e s m args below meth c Q ls E hK hP hRet hl => ?_)
  have hl : lv_has ls 5 [(0, .ref mo), (1, .ref mst), (2, .int p2)] := hl
  obtain ⟨hx, hb, hml, hown, hts⟩ := id E
  have inX9 : ∀ w ∈ u_ws RX9 TX9 17, w ∈ wsX9_classes := by decide +kernel
  have fl7 := hts (.fieldLink RX9 7 "SplitClassesModel" "st" "[I") (by decide +kernel)
  refine lv_iconst (v := (-1 : Int32)) (pc := 0) hx hb dX9_classes_0 (by decide) ?_
  refine lv_istore_n (lv' := [(3, .int (-1 : Int32)), (0, .ref mo), (1, .ref mst), (2, .int p2)]) (pc := 1) hx hb dX9_classes_1 rfl hl (by decide) rfl (fun ls hl => ?_)
  refine lv_iconst (v := (0 : Int32)) (pc := 2) hx hb dX9_classes_2 (by decide) ?_
  refine lv_istore (lv' := [(4, .int (0 : Int32)), (3, .int (-1 : Int32)), (0, .ref mo), (1, .ref mst), (2, .int p2)]) (pc := 3) hx hb dX9_classes_3 hl (by decide) rfl (fun ls hl => ?_)
  obtain ⟨x3_3, hL3, hF⟩ := ob1_e hF
  have ex3 : ∀ (ls : Array Slot), lv_has ls 5 [(3, .int x3_3)] → W p l e (zRm 0 0) s m args below meth c s.heap [] 0 0 Q (F0 m 43 ls []) := by
    intro ls hl
    refine lv_iload_n (pc := 43) hx hb dX9_classes_43 rfl (lv_at hl 0 rfl) ?_
    refine lv_iconst (v := (1 : Int32)) (pc := 44) hx hb dX9_classes_44 (by decide) ?_
    refine lv_iadd (pc := 45) hx hb dX9_classes_45 ?_
    cases hF
    exact hRet _ _ rfl dX9_classes_46
  have lp3 : ∀ (n : Nat) (x4_2 : Int32) (x3_2 : Int32) (ls : Array Slot), olp (fX9_classes_s5 st p2) n (x4_2, x3_2) = some x3_3 → lv_has ls 5 [(4, .int x4_2), (3, .int x3_2), (0, .ref mo), (1, .ref mst), (2, .int p2)] → W p l e (zRm 0 0) s m args below meth c s.heap [] 0 0 Q (F0 m 5 ls []) := by
    intro n
    induction n with
    | zero => intro x4_2 x3_2 ls hL; exact olp_0 hL
    | succ n ih =>
      intro x4_2 x3_2 ls hL3 hl
      obtain ⟨z, hz3, hL3⟩ := olp_e hL3
      have hz3 : fX9_classes_b5 st p2 x4_2 x3_2 = some z := hz3
      unfold fX9_classes_b5 at hz3
      refine lv_iload (pc := 5) hx hb dX9_classes_5 (lv_at hl 0 rfl) ?_
      refine lv_aload_n (pc := 7) hx hb dX9_classes_7 rfl (lv_at hl 2 rfl) ?_
      refine va_get (pc := 8) (ci := 9) (C := RX9) (T := TX9) (N := 17) hx hb hts inX9 hown hK hP 0 rfl rfl 0 (by decide) fl7 (fun _ h9 => h9) rfl dX9_classes_8 ?_
      refine lv_iconst (v := (0 : Int32)) (pc := 11) hx hb dX9_classes_11 (by decide) ?_
      refine z_iald (pc := 12) (k := 0) hx hb hK hP 1 0 rfl rfl (by decide) (by decide) dX9_classes_12 ?_
      refine lv_icmp_ge (pc := 13) (tgt := 43) hx hb dX9_classes_13 (by decide) (fun hc => ?_) (fun hc => ?_)
      · have hz3 := oif_t hz3 hc
        have hE := olp_r hz3 hL3
        cases hE
        exact ex3 _ (lv_sub hl [1] rfl)
      · have hz3 := oif_f hz3 hc
        refine lv_aload_n (pc := 16) hx hb dX9_classes_16 rfl (lv_at hl 3 rfl) ?_
        refine lv_iload_n (pc := 17) hx hb dX9_classes_17 rfl (lv_at hl 4 rfl) ?_
        refine lv_iload (pc := 18) hx hb dX9_classes_18 (lv_at hl 0 rfl) ?_
        refine lv_iadd (pc := 20) hx hb dX9_classes_20 ?_
        obtain ⟨hg4, hz3⟩ := ogd_e hz3
        refine va_iald (pc := 21) hx hb hK hP 1 0 rfl rfl hg4 dX9_classes_21 ?_
        refine lv_iload_n (pc := 22) hx hb dX9_classes_22 rfl (lv_at hl 1 rfl) ?_
        refine lv_icmp_le (pc := 23) (tgt := 35) hx hb dX9_classes_23 (by decide) (fun hc => ?_) (fun hc => ?_)
        · have hz3 := oif_t hz3 hc
          refine lv_iload_n (pc := 35) hx hb dX9_classes_35 rfl (lv_at hl 1 rfl) ?_
          refine lv_istore_n (lv' := [(3, .int x3_2), (4, .int x4_2), (0, .ref mo), (1, .ref mst), (2, .int p2)]) (pc := 36) hx hb dX9_classes_36 rfl hl (by decide) rfl (fun ls hl => ?_)
          refine lv_iinc (v := (x4_2 + (1 : Int32))) (lv' := [(4, .int (x4_2 + (1 : Int32))), (3, .int x3_2), (0, .ref mo), (1, .ref mst), (2, .int p2)]) (pc := 37) hx hb dX9_classes_37 hl (k := 1) rfl rfl (by decide) rfl (fun ls hl => ?_)
          refine lv_goto (pc := 40) (tgt := 5) hx hb dX9_classes_40 (by decide) ?_
          exact ih _ _ _ (olp_l hz3 hL3) (lv_sub hl [0, 1, 2, 3, 4] rfl)
        · have hz3 := oif_f hz3 hc
          refine lv_aload_n (pc := 26) hx hb dX9_classes_26 rfl (lv_at hl 3 rfl) ?_
          refine lv_iload_n (pc := 27) hx hb dX9_classes_27 rfl (lv_at hl 4 rfl) ?_
          refine lv_iload (pc := 28) hx hb dX9_classes_28 (lv_at hl 0 rfl) ?_
          refine lv_iadd (pc := 30) hx hb dX9_classes_30 ?_
          obtain ⟨hg5, hz3⟩ := ogd_e hz3
          refine va_iald (pc := 31) hx hb hK hP 1 0 rfl rfl hg5 dX9_classes_31 ?_
          refine lv_goto (pc := 32) (tgt := 36) hx hb dX9_classes_32 (by decide) ?_
          refine lv_istore_n (lv' := [(3, .int (st (Int32.toNatClampNeg (p2 + x4_2)))), (4, .int x4_2), (0, .ref mo), (1, .ref mst), (2, .int p2)]) (pc := 36) hx hb dX9_classes_36 rfl hl (by decide) rfl (fun ls hl => ?_)
          refine lv_iinc (v := (x4_2 + (1 : Int32))) (lv' := [(4, .int (x4_2 + (1 : Int32))), (3, .int (st (Int32.toNatClampNeg (p2 + x4_2)))), (0, .ref mo), (1, .ref mst), (2, .int p2)]) (pc := 37) hx hb dX9_classes_37 hl (k := 1) rfl rfl (by decide) rfl (fun ls hl => ?_)
          refine lv_goto (pc := 40) (tgt := 5) hx hb dX9_classes_40 (by decide) ?_
          exact ih _ _ _ (olp_l hz3 hL3) (lv_sub hl [0, 1, 2, 3, 4] rfl)
  exact lp3 oFu _ _ _ hL3 (lv_sub hl [0, 1, 2, 3, 4] rfl)
def fX9_classes_a_b5 (st : (Nat → Int32)) (p2 : Int32) (asd : (Nat → Int32)) (x4_2 : Int32) (x3_2 : Int32) : Option ((Int32 × Int32) ⊕ (Int32)) := (if (st 0) ≤ x4_2 then (some (.inr x3_2)) else (ogd (p2 + x4_2) 12 (if (asd (Int32.toNatClampNeg (p2 + x4_2))) ≤ x3_2 then (some (.inl ((x4_2 + (1 : Int32)), x3_2))) else (ogd (p2 + x4_2) 12 (some (.inl ((x4_2 + (1 : Int32)), (asd (Int32.toNatClampNeg (p2 + x4_2))))))))))
def fX9_classes_a_s5 (st : (Nat → Int32)) (p2 : Int32) (asd : (Nat → Int32)) (sg_ : Int32 × Int32) : Option ((Int32 × Int32) ⊕ (Int32)) := fX9_classes_a_b5 st p2 asd sg_.1 sg_.2
def fX9_classes_a (p2 : Int32) (deeds : Int32) (sd : Int32) (ent : Int32) (st : (Nat → Int32)) (asd : (Nat → Int32)) : Option (Int32) := (ob1 (olp (fX9_classes_a_s5 st p2 asd) oFu ((0 : Int32), (-1 : Int32))) (fun x3_3 => (some (x3_3 + (1 : Int32)))))
abbrev wX9_classes_a (cI cZ cM cS : ClassId) (mo mst mpa mim mik mbi mbk mnr mia min mas mpr mfa mme mse : Nat) (deeds : Int32) (sd : Int32) (ent : Int32) (st : (Nat → Int32)) (asd : (Nat → Int32)) : va_W := [(mo, .inr (9, [.ref mst, .ref mpa, .int deeds, .ref mim, .ref mik, .int sd, .ref mbi, .ref mbk, .int ent, .ref mnr, .ref mia, .ref min, .ref mas, .ref mpr, .ref mfa, .ref mme, .ref mse])), (mst, .inl (cI, 76, .inl st)), (mas, .inl (cI, 12, .inl asd))]
set_option maxHeartbeats 4000000 in
set_option maxRecDepth 100000 in
theorem tX9_classes_a (l : Launch) (D : va_G) (cI cZ cM cS : ClassId) (mo mst mpa mim mik mbi mbk mnr mia min mas mpr mfa mme mse : Nat) (deeds : Int32) (sd : Int32) (ent : Int32) (st : (Nat → Int32)) (asd : (Nat → Int32)) (p2 : Int32) {r : Int32} (hF : fX9_classes_a p2 deeds sd ent st asd = some r) : zCR l yX9_classes wsX9_classes (zRm 0 0) D (zTy cI cZ cM cS) [.ref mo, .ref mas, .int p2] (wX9_classes_a cI cZ cM cS mo mst mpa mim mik mbi mbk mnr mia min mas mpr mfa mme mse deeds sd ent st asd) r := by
  unfold fX9_classes_a at hF
  refine zCR_of (cc := cX9_classes) (maxL := 5) (own := RX9) (by decide +kernel) rfl rfl (Nat.le_of_ble_eq_true rfl) (fun p e s m args below meth c Q ls E hK hP hRet hl => ?_)
  have hl : lv_has ls 5 [(0, .ref mo), (1, .ref mas), (2, .int p2)] := hl
  obtain ⟨hx, hb, hml, hown, hts⟩ := id E
  have inX9 : ∀ w ∈ u_ws RX9 TX9 17, w ∈ wsX9_classes := by decide +kernel
  have fl7 := hts (.fieldLink RX9 7 "SplitClassesModel" "st" "[I") (by decide +kernel)
  refine lv_iconst (v := (-1 : Int32)) (pc := 0) hx hb dX9_classes_0 (by decide) ?_
  refine lv_istore_n (lv' := [(3, .int (-1 : Int32)), (0, .ref mo), (1, .ref mas), (2, .int p2)]) (pc := 1) hx hb dX9_classes_1 rfl hl (by decide) rfl (fun ls hl => ?_)
  refine lv_iconst (v := (0 : Int32)) (pc := 2) hx hb dX9_classes_2 (by decide) ?_
  refine lv_istore (lv' := [(4, .int (0 : Int32)), (3, .int (-1 : Int32)), (0, .ref mo), (1, .ref mas), (2, .int p2)]) (pc := 3) hx hb dX9_classes_3 hl (by decide) rfl (fun ls hl => ?_)
  obtain ⟨x3_3, hL3, hF⟩ := ob1_e hF
  have ex3 : ∀ (ls : Array Slot), lv_has ls 5 [(3, .int x3_3)] → W p l e (zRm 0 0) s m args below meth c s.heap [] 0 0 Q (F0 m 43 ls []) := by
    intro ls hl
    refine lv_iload_n (pc := 43) hx hb dX9_classes_43 rfl (lv_at hl 0 rfl) ?_
    refine lv_iconst (v := (1 : Int32)) (pc := 44) hx hb dX9_classes_44 (by decide) ?_
    refine lv_iadd (pc := 45) hx hb dX9_classes_45 ?_
    cases hF
    exact hRet _ _ rfl dX9_classes_46
  have lp3 : ∀ (n : Nat) (x4_2 : Int32) (x3_2 : Int32) (ls : Array Slot), olp (fX9_classes_a_s5 st p2 asd) n (x4_2, x3_2) = some x3_3 → lv_has ls 5 [(4, .int x4_2), (3, .int x3_2), (0, .ref mo), (1, .ref mas), (2, .int p2)] → W p l e (zRm 0 0) s m args below meth c s.heap [] 0 0 Q (F0 m 5 ls []) := by
    intro n
    induction n with
    | zero => intro x4_2 x3_2 ls hL; exact olp_0 hL
    | succ n ih =>
      intro x4_2 x3_2 ls hL3 hl
      obtain ⟨z, hz3, hL3⟩ := olp_e hL3
      have hz3 : fX9_classes_a_b5 st p2 asd x4_2 x3_2 = some z := hz3
      unfold fX9_classes_a_b5 at hz3
      refine lv_iload (pc := 5) hx hb dX9_classes_5 (lv_at hl 0 rfl) ?_
      refine lv_aload_n (pc := 7) hx hb dX9_classes_7 rfl (lv_at hl 2 rfl) ?_
      refine va_get (pc := 8) (ci := 9) (C := RX9) (T := TX9) (N := 17) hx hb hts inX9 hown hK hP 0 rfl rfl 0 (by decide) fl7 (fun _ h9 => h9) rfl dX9_classes_8 ?_
      refine lv_iconst (v := (0 : Int32)) (pc := 11) hx hb dX9_classes_11 (by decide) ?_
      refine z_iald (pc := 12) (k := 0) hx hb hK hP 1 0 rfl rfl (by decide) (by decide) dX9_classes_12 ?_
      refine lv_icmp_ge (pc := 13) (tgt := 43) hx hb dX9_classes_13 (by decide) (fun hc => ?_) (fun hc => ?_)
      · have hz3 := oif_t hz3 hc
        have hE := olp_r hz3 hL3
        cases hE
        exact ex3 _ (lv_sub hl [1] rfl)
      · have hz3 := oif_f hz3 hc
        refine lv_aload_n (pc := 16) hx hb dX9_classes_16 rfl (lv_at hl 3 rfl) ?_
        refine lv_iload_n (pc := 17) hx hb dX9_classes_17 rfl (lv_at hl 4 rfl) ?_
        refine lv_iload (pc := 18) hx hb dX9_classes_18 (lv_at hl 0 rfl) ?_
        refine lv_iadd (pc := 20) hx hb dX9_classes_20 ?_
        obtain ⟨hg4, hz3⟩ := ogd_e hz3
        refine va_iald (pc := 21) hx hb hK hP 2 0 rfl rfl hg4 dX9_classes_21 ?_
        refine lv_iload_n (pc := 22) hx hb dX9_classes_22 rfl (lv_at hl 1 rfl) ?_
        refine lv_icmp_le (pc := 23) (tgt := 35) hx hb dX9_classes_23 (by decide) (fun hc => ?_) (fun hc => ?_)
        · have hz3 := oif_t hz3 hc
          refine lv_iload_n (pc := 35) hx hb dX9_classes_35 rfl (lv_at hl 1 rfl) ?_
          refine lv_istore_n (lv' := [(3, .int x3_2), (4, .int x4_2), (0, .ref mo), (1, .ref mas), (2, .int p2)]) (pc := 36) hx hb dX9_classes_36 rfl hl (by decide) rfl (fun ls hl => ?_)
          refine lv_iinc (v := (x4_2 + (1 : Int32))) (lv' := [(4, .int (x4_2 + (1 : Int32))), (3, .int x3_2), (0, .ref mo), (1, .ref mas), (2, .int p2)]) (pc := 37) hx hb dX9_classes_37 hl (k := 1) rfl rfl (by decide) rfl (fun ls hl => ?_)
          refine lv_goto (pc := 40) (tgt := 5) hx hb dX9_classes_40 (by decide) ?_
          exact ih _ _ _ (olp_l hz3 hL3) (lv_sub hl [0, 1, 2, 3, 4] rfl)
        · have hz3 := oif_f hz3 hc
          refine lv_aload_n (pc := 26) hx hb dX9_classes_26 rfl (lv_at hl 3 rfl) ?_
          refine lv_iload_n (pc := 27) hx hb dX9_classes_27 rfl (lv_at hl 4 rfl) ?_
          refine lv_iload (pc := 28) hx hb dX9_classes_28 (lv_at hl 0 rfl) ?_
          refine lv_iadd (pc := 30) hx hb dX9_classes_30 ?_
          obtain ⟨hg5, hz3⟩ := ogd_e hz3
          refine va_iald (pc := 31) hx hb hK hP 2 0 rfl rfl hg5 dX9_classes_31 ?_
          refine lv_goto (pc := 32) (tgt := 36) hx hb dX9_classes_32 (by decide) ?_
          refine lv_istore_n (lv' := [(3, .int (asd (Int32.toNatClampNeg (p2 + x4_2)))), (4, .int x4_2), (0, .ref mo), (1, .ref mas), (2, .int p2)]) (pc := 36) hx hb dX9_classes_36 rfl hl (by decide) rfl (fun ls hl => ?_)
          refine lv_iinc (v := (x4_2 + (1 : Int32))) (lv' := [(4, .int (x4_2 + (1 : Int32))), (3, .int (asd (Int32.toNatClampNeg (p2 + x4_2)))), (0, .ref mo), (1, .ref mas), (2, .int p2)]) (pc := 37) hx hb dX9_classes_37 hl (k := 1) rfl rfl (by decide) rfl (fun ls hl => ?_)
          refine lv_goto (pc := 40) (tgt := 5) hx hb dX9_classes_40 (by decide) ?_
          exact ih _ _ _ (olp_l hz3 hL3) (lv_sub hl [0, 1, 2, 3, 4] rfl)
  exact lp3 oFu _ _ _ hL3 (lv_sub hl [0, 1, 2, 3, 4] rfl)
def fX9_membersOf_b6 (st : (Nat → Int32)) (p2 : Int32) (p3 : Int32) (x5_2 : Int32) (x4_2 : Int32) : Option ((Int32 × Int32) ⊕ (Int32)) := (if (st 0) ≤ x5_2 then (some (.inr x4_2)) else (ogd (p2 + x5_2) 76 (if (st (Int32.toNatClampNeg (p2 + x5_2))) = p3 then (some (.inl ((x5_2 + (1 : Int32)), (x4_2 ||| ((1 : Int32) <<< (x5_2 &&& 31)))))) else (some (.inl ((x5_2 + (1 : Int32)), (x4_2 ||| (0 : Int32))))))))
def fX9_membersOf_s6 (st : (Nat → Int32)) (p2 : Int32) (p3 : Int32) (sg_ : Int32 × Int32) : Option ((Int32 × Int32) ⊕ (Int32)) := fX9_membersOf_b6 st p2 p3 sg_.1 sg_.2
def fX9_membersOf (p2 : Int32) (p3 : Int32) (deeds : Int32) (sd : Int32) (ent : Int32) (st : (Nat → Int32)) : Option (Int32) := (ob1 (olp (fX9_membersOf_s6 st p2 p3) oFu ((0 : Int32), (0 : Int32))) (fun x4_3 => (some x4_3)))
abbrev wX9_membersOf (cI cZ cM cS : ClassId) (mo mst mpa mim mik mbi mbk mnr mia min mas mpr mfa mme mse : Nat) (deeds : Int32) (sd : Int32) (ent : Int32) (st : (Nat → Int32)) : va_W := [(mo, .inr (9, [.ref mst, .ref mpa, .int deeds, .ref mim, .ref mik, .int sd, .ref mbi, .ref mbk, .int ent, .ref mnr, .ref mia, .ref min, .ref mas, .ref mpr, .ref mfa, .ref mme, .ref mse])), (mst, .inl (cI, 76, .inl st))]
set_option maxHeartbeats 4000000 in
set_option maxRecDepth 100000 in
theorem tX9_membersOf (l : Launch) (D : va_G) (cI cZ cM cS : ClassId) (mo mst mpa mim mik mbi mbk mnr mia min mas mpr mfa mme mse : Nat) (deeds : Int32) (sd : Int32) (ent : Int32) (st : (Nat → Int32)) (p2 : Int32) (p3 : Int32) {r : Int32} (hF : fX9_membersOf p2 p3 deeds sd ent st = some r) : zCR l yX9_membersOf wsX9_membersOf (zRm 0 0) D (zTy cI cZ cM cS) [.ref mo, .ref mst, .int p2, .int p3] (wX9_membersOf cI cZ cM cS mo mst mpa mim mik mbi mbk mnr mia min mas mpr mfa mme mse deeds sd ent st) r := by
  unfold fX9_membersOf at hF
  refine zCR_of (cc := cX9_membersOf) (maxL := 6) (own := RX9) (by decide +kernel) rfl rfl (Nat.le_of_ble_eq_true rfl) (fun p e s m args below meth c Q ls E hK hP hRet hl => ?_)
  have hl : lv_has ls 6 [(0, .ref mo), (1, .ref mst), (2, .int p2), (3, .int p3)] := hl
  obtain ⟨hx, hb, hml, hown, hts⟩ := id E
  have inX9 : ∀ w ∈ u_ws RX9 TX9 17, w ∈ wsX9_membersOf := by decide +kernel
  have fl7 := hts (.fieldLink RX9 7 "SplitClassesModel" "st" "[I") (by decide +kernel)
  refine lv_iconst (v := (0 : Int32)) (pc := 0) hx hb dX9_membersOf_0 (by decide) ?_
  refine lv_istore (lv' := [(4, .int (0 : Int32)), (0, .ref mo), (1, .ref mst), (2, .int p2), (3, .int p3)]) (pc := 1) hx hb dX9_membersOf_1 hl (by decide) rfl (fun ls hl => ?_)
  refine lv_iconst (v := (0 : Int32)) (pc := 3) hx hb dX9_membersOf_3 (by decide) ?_
  refine lv_istore (lv' := [(5, .int (0 : Int32)), (4, .int (0 : Int32)), (0, .ref mo), (1, .ref mst), (2, .int p2), (3, .int p3)]) (pc := 4) hx hb dX9_membersOf_4 hl (by decide) rfl (fun ls hl => ?_)
  obtain ⟨x4_3, hL2, hF⟩ := ob1_e hF
  have ex2 : ∀ (ls : Array Slot), lv_has ls 6 [(4, .int x4_3)] → W p l e (zRm 0 0) s m args below meth c s.heap [] 0 0 Q (F0 m 46 ls []) := by
    intro ls hl
    refine lv_iload (pc := 46) hx hb dX9_membersOf_46 (lv_at hl 0 rfl) ?_
    cases hF
    exact hRet _ _ rfl dX9_membersOf_48
  have lp2 : ∀ (n : Nat) (x5_2 : Int32) (x4_2 : Int32) (ls : Array Slot), olp (fX9_membersOf_s6 st p2 p3) n (x5_2, x4_2) = some x4_3 → lv_has ls 6 [(5, .int x5_2), (4, .int x4_2), (0, .ref mo), (1, .ref mst), (2, .int p2), (3, .int p3)] → W p l e (zRm 0 0) s m args below meth c s.heap [] 0 0 Q (F0 m 6 ls []) := by
    intro n
    induction n with
    | zero => intro x5_2 x4_2 ls hL; exact olp_0 hL
    | succ n ih =>
      intro x5_2 x4_2 ls hL2 hl
      obtain ⟨z, hz2, hL2⟩ := olp_e hL2
      have hz2 : fX9_membersOf_b6 st p2 p3 x5_2 x4_2 = some z := hz2
      unfold fX9_membersOf_b6 at hz2
      refine lv_iload (pc := 6) hx hb dX9_membersOf_6 (lv_at hl 0 rfl) ?_
      refine lv_aload_n (pc := 8) hx hb dX9_membersOf_8 rfl (lv_at hl 2 rfl) ?_
      refine va_get (pc := 9) (ci := 9) (C := RX9) (T := TX9) (N := 17) hx hb hts inX9 hown hK hP 0 rfl rfl 0 (by decide) fl7 (fun _ h9 => h9) rfl dX9_membersOf_9 ?_
      refine lv_iconst (v := (0 : Int32)) (pc := 12) hx hb dX9_membersOf_12 (by decide) ?_
      refine z_iald (pc := 13) (k := 0) hx hb hK hP 1 0 rfl rfl (by decide) (by decide) dX9_membersOf_13 ?_
      refine lv_icmp_ge (pc := 14) (tgt := 46) hx hb dX9_membersOf_14 (by decide) (fun hc => ?_) (fun hc => ?_)
      · have hz2 := oif_t hz2 hc
        have hE := olp_r hz2 hL2
        cases hE
        exact ex2 _ (lv_sub hl [1] rfl)
      · have hz2 := oif_f hz2 hc
        refine lv_iload (pc := 17) hx hb dX9_membersOf_17 (lv_at hl 1 rfl) ?_
        refine lv_aload_n (pc := 19) hx hb dX9_membersOf_19 rfl (lv_at hl 3 rfl) ?_
        refine lv_iload_n (pc := 20) hx hb dX9_membersOf_20 rfl (lv_at hl 4 rfl) ?_
        refine lv_iload (pc := 21) hx hb dX9_membersOf_21 (lv_at hl 0 rfl) ?_
        refine lv_iadd (pc := 23) hx hb dX9_membersOf_23 ?_
        obtain ⟨hg3, hz2⟩ := ogd_e hz2
        refine va_iald (pc := 24) hx hb hK hP 1 0 rfl rfl hg3 dX9_membersOf_24 ?_
        refine lv_iload_n (pc := 25) hx hb dX9_membersOf_25 rfl (lv_at hl 5 rfl) ?_
        refine lv_icmp_ne (pc := 26) (tgt := 36) hx hb dX9_membersOf_26 (by decide) (fun hc => ?_) (fun hc => ?_)
        · have hz2 := oif_f hz2 hc
          refine lv_iconst (v := (0 : Int32)) (pc := 36) hx hb dX9_membersOf_36 (by decide) ?_
          refine lv_ior (pc := 37) hx hb dX9_membersOf_37 ?_
          refine lv_istore (lv' := [(4, .int (x4_2 ||| (0 : Int32))), (5, .int x5_2), (0, .ref mo), (1, .ref mst), (2, .int p2), (3, .int p3)]) (pc := 38) hx hb dX9_membersOf_38 hl (by decide) rfl (fun ls hl => ?_)
          refine lv_iinc (v := (x5_2 + (1 : Int32))) (lv' := [(5, .int (x5_2 + (1 : Int32))), (4, .int (x4_2 ||| (0 : Int32))), (0, .ref mo), (1, .ref mst), (2, .int p2), (3, .int p3)]) (pc := 40) hx hb dX9_membersOf_40 hl (k := 1) rfl rfl (by decide) rfl (fun ls hl => ?_)
          refine lv_goto (pc := 43) (tgt := 6) hx hb dX9_membersOf_43 (by decide) ?_
          exact ih _ _ _ (olp_l hz2 hL2) (lv_sub hl [0, 1, 2, 3, 4, 5] rfl)
        · have hz2 := oif_t hz2 hc
          refine lv_iconst (v := (1 : Int32)) (pc := 29) hx hb dX9_membersOf_29 (by decide) ?_
          refine lv_iload (pc := 30) hx hb dX9_membersOf_30 (lv_at hl 0 rfl) ?_
          refine lv_ishl (pc := 32) hx hb dX9_membersOf_32 ?_
          refine lv_goto (pc := 33) (tgt := 37) hx hb dX9_membersOf_33 (by decide) ?_
          refine lv_ior (pc := 37) hx hb dX9_membersOf_37 ?_
          refine lv_istore (lv' := [(4, .int (x4_2 ||| ((1 : Int32) <<< (x5_2 &&& 31)))), (5, .int x5_2), (0, .ref mo), (1, .ref mst), (2, .int p2), (3, .int p3)]) (pc := 38) hx hb dX9_membersOf_38 hl (by decide) rfl (fun ls hl => ?_)
          refine lv_iinc (v := (x5_2 + (1 : Int32))) (lv' := [(5, .int (x5_2 + (1 : Int32))), (4, .int (x4_2 ||| ((1 : Int32) <<< (x5_2 &&& 31)))), (0, .ref mo), (1, .ref mst), (2, .int p2), (3, .int p3)]) (pc := 40) hx hb dX9_membersOf_40 hl (k := 1) rfl rfl (by decide) rfl (fun ls hl => ?_)
          refine lv_goto (pc := 43) (tgt := 6) hx hb dX9_membersOf_43 (by decide) ?_
          exact ih _ _ _ (olp_l hz2 hL2) (lv_sub hl [0, 1, 2, 3, 4, 5] rfl)
  exact lp2 oFu _ _ _ hL2 (lv_sub hl [0, 1, 2, 3, 4, 5] rfl)
def fX9_membersOf_a_b6 (st : (Nat → Int32)) (p2 : Int32) (asd : (Nat → Int32)) (p3 : Int32) (x5_2 : Int32) (x4_2 : Int32) : Option ((Int32 × Int32) ⊕ (Int32)) := (if (st 0) ≤ x5_2 then (some (.inr x4_2)) else (ogd (p2 + x5_2) 12 (if (asd (Int32.toNatClampNeg (p2 + x5_2))) = p3 then (some (.inl ((x5_2 + (1 : Int32)), (x4_2 ||| ((1 : Int32) <<< (x5_2 &&& 31)))))) else (some (.inl ((x5_2 + (1 : Int32)), (x4_2 ||| (0 : Int32))))))))
def fX9_membersOf_a_s6 (st : (Nat → Int32)) (p2 : Int32) (asd : (Nat → Int32)) (p3 : Int32) (sg_ : Int32 × Int32) : Option ((Int32 × Int32) ⊕ (Int32)) := fX9_membersOf_a_b6 st p2 asd p3 sg_.1 sg_.2
def fX9_membersOf_a (p2 : Int32) (p3 : Int32) (deeds : Int32) (sd : Int32) (ent : Int32) (st : (Nat → Int32)) (asd : (Nat → Int32)) : Option (Int32) := (ob1 (olp (fX9_membersOf_a_s6 st p2 asd p3) oFu ((0 : Int32), (0 : Int32))) (fun x4_3 => (some x4_3)))
abbrev wX9_membersOf_a (cI cZ cM cS : ClassId) (mo mst mpa mim mik mbi mbk mnr mia min mas mpr mfa mme mse : Nat) (deeds : Int32) (sd : Int32) (ent : Int32) (st : (Nat → Int32)) (asd : (Nat → Int32)) : va_W := [(mo, .inr (9, [.ref mst, .ref mpa, .int deeds, .ref mim, .ref mik, .int sd, .ref mbi, .ref mbk, .int ent, .ref mnr, .ref mia, .ref min, .ref mas, .ref mpr, .ref mfa, .ref mme, .ref mse])), (mst, .inl (cI, 76, .inl st)), (mas, .inl (cI, 12, .inl asd))]
set_option maxHeartbeats 4000000 in
set_option maxRecDepth 100000 in
theorem tX9_membersOf_a (l : Launch) (D : va_G) (cI cZ cM cS : ClassId) (mo mst mpa mim mik mbi mbk mnr mia min mas mpr mfa mme mse : Nat) (deeds : Int32) (sd : Int32) (ent : Int32) (st : (Nat → Int32)) (asd : (Nat → Int32)) (p2 : Int32) (p3 : Int32) {r : Int32} (hF : fX9_membersOf_a p2 p3 deeds sd ent st asd = some r) : zCR l yX9_membersOf wsX9_membersOf (zRm 0 0) D (zTy cI cZ cM cS) [.ref mo, .ref mas, .int p2, .int p3] (wX9_membersOf_a cI cZ cM cS mo mst mpa mim mik mbi mbk mnr mia min mas mpr mfa mme mse deeds sd ent st asd) r := by
  unfold fX9_membersOf_a at hF
  refine zCR_of (cc := cX9_membersOf) (maxL := 6) (own := RX9) (by decide +kernel) rfl rfl (Nat.le_of_ble_eq_true rfl) (fun p e s m args below meth c Q ls E hK hP hRet hl => ?_)
  have hl : lv_has ls 6 [(0, .ref mo), (1, .ref mas), (2, .int p2), (3, .int p3)] := hl
  obtain ⟨hx, hb, hml, hown, hts⟩ := id E
  have inX9 : ∀ w ∈ u_ws RX9 TX9 17, w ∈ wsX9_membersOf := by decide +kernel
  have fl7 := hts (.fieldLink RX9 7 "SplitClassesModel" "st" "[I") (by decide +kernel)
  refine lv_iconst (v := (0 : Int32)) (pc := 0) hx hb dX9_membersOf_0 (by decide) ?_
  refine lv_istore (lv' := [(4, .int (0 : Int32)), (0, .ref mo), (1, .ref mas), (2, .int p2), (3, .int p3)]) (pc := 1) hx hb dX9_membersOf_1 hl (by decide) rfl (fun ls hl => ?_)
  refine lv_iconst (v := (0 : Int32)) (pc := 3) hx hb dX9_membersOf_3 (by decide) ?_
  refine lv_istore (lv' := [(5, .int (0 : Int32)), (4, .int (0 : Int32)), (0, .ref mo), (1, .ref mas), (2, .int p2), (3, .int p3)]) (pc := 4) hx hb dX9_membersOf_4 hl (by decide) rfl (fun ls hl => ?_)
  obtain ⟨x4_3, hL2, hF⟩ := ob1_e hF
  have ex2 : ∀ (ls : Array Slot), lv_has ls 6 [(4, .int x4_3)] → W p l e (zRm 0 0) s m args below meth c s.heap [] 0 0 Q (F0 m 46 ls []) := by
    intro ls hl
    refine lv_iload (pc := 46) hx hb dX9_membersOf_46 (lv_at hl 0 rfl) ?_
    cases hF
    exact hRet _ _ rfl dX9_membersOf_48
  have lp2 : ∀ (n : Nat) (x5_2 : Int32) (x4_2 : Int32) (ls : Array Slot), olp (fX9_membersOf_a_s6 st p2 asd p3) n (x5_2, x4_2) = some x4_3 → lv_has ls 6 [(5, .int x5_2), (4, .int x4_2), (0, .ref mo), (1, .ref mas), (2, .int p2), (3, .int p3)] → W p l e (zRm 0 0) s m args below meth c s.heap [] 0 0 Q (F0 m 6 ls []) := by
    intro n
    induction n with
    | zero => intro x5_2 x4_2 ls hL; exact olp_0 hL
    | succ n ih =>
      intro x5_2 x4_2 ls hL2 hl
      obtain ⟨z, hz2, hL2⟩ := olp_e hL2
      have hz2 : fX9_membersOf_a_b6 st p2 asd p3 x5_2 x4_2 = some z := hz2
      unfold fX9_membersOf_a_b6 at hz2
      refine lv_iload (pc := 6) hx hb dX9_membersOf_6 (lv_at hl 0 rfl) ?_
      refine lv_aload_n (pc := 8) hx hb dX9_membersOf_8 rfl (lv_at hl 2 rfl) ?_
      refine va_get (pc := 9) (ci := 9) (C := RX9) (T := TX9) (N := 17) hx hb hts inX9 hown hK hP 0 rfl rfl 0 (by decide) fl7 (fun _ h9 => h9) rfl dX9_membersOf_9 ?_
      refine lv_iconst (v := (0 : Int32)) (pc := 12) hx hb dX9_membersOf_12 (by decide) ?_
      refine z_iald (pc := 13) (k := 0) hx hb hK hP 1 0 rfl rfl (by decide) (by decide) dX9_membersOf_13 ?_
      refine lv_icmp_ge (pc := 14) (tgt := 46) hx hb dX9_membersOf_14 (by decide) (fun hc => ?_) (fun hc => ?_)
      · have hz2 := oif_t hz2 hc
        have hE := olp_r hz2 hL2
        cases hE
        exact ex2 _ (lv_sub hl [1] rfl)
      · have hz2 := oif_f hz2 hc
        refine lv_iload (pc := 17) hx hb dX9_membersOf_17 (lv_at hl 1 rfl) ?_
        refine lv_aload_n (pc := 19) hx hb dX9_membersOf_19 rfl (lv_at hl 3 rfl) ?_
        refine lv_iload_n (pc := 20) hx hb dX9_membersOf_20 rfl (lv_at hl 4 rfl) ?_
        refine lv_iload (pc := 21) hx hb dX9_membersOf_21 (lv_at hl 0 rfl) ?_
        refine lv_iadd (pc := 23) hx hb dX9_membersOf_23 ?_
        obtain ⟨hg3, hz2⟩ := ogd_e hz2
        refine va_iald (pc := 24) hx hb hK hP 2 0 rfl rfl hg3 dX9_membersOf_24 ?_
        refine lv_iload_n (pc := 25) hx hb dX9_membersOf_25 rfl (lv_at hl 5 rfl) ?_
        refine lv_icmp_ne (pc := 26) (tgt := 36) hx hb dX9_membersOf_26 (by decide) (fun hc => ?_) (fun hc => ?_)
        · have hz2 := oif_f hz2 hc
          refine lv_iconst (v := (0 : Int32)) (pc := 36) hx hb dX9_membersOf_36 (by decide) ?_
          refine lv_ior (pc := 37) hx hb dX9_membersOf_37 ?_
          refine lv_istore (lv' := [(4, .int (x4_2 ||| (0 : Int32))), (5, .int x5_2), (0, .ref mo), (1, .ref mas), (2, .int p2), (3, .int p3)]) (pc := 38) hx hb dX9_membersOf_38 hl (by decide) rfl (fun ls hl => ?_)
          refine lv_iinc (v := (x5_2 + (1 : Int32))) (lv' := [(5, .int (x5_2 + (1 : Int32))), (4, .int (x4_2 ||| (0 : Int32))), (0, .ref mo), (1, .ref mas), (2, .int p2), (3, .int p3)]) (pc := 40) hx hb dX9_membersOf_40 hl (k := 1) rfl rfl (by decide) rfl (fun ls hl => ?_)
          refine lv_goto (pc := 43) (tgt := 6) hx hb dX9_membersOf_43 (by decide) ?_
          exact ih _ _ _ (olp_l hz2 hL2) (lv_sub hl [0, 1, 2, 3, 4, 5] rfl)
        · have hz2 := oif_t hz2 hc
          refine lv_iconst (v := (1 : Int32)) (pc := 29) hx hb dX9_membersOf_29 (by decide) ?_
          refine lv_iload (pc := 30) hx hb dX9_membersOf_30 (lv_at hl 0 rfl) ?_
          refine lv_ishl (pc := 32) hx hb dX9_membersOf_32 ?_
          refine lv_goto (pc := 33) (tgt := 37) hx hb dX9_membersOf_33 (by decide) ?_
          refine lv_ior (pc := 37) hx hb dX9_membersOf_37 ?_
          refine lv_istore (lv' := [(4, .int (x4_2 ||| ((1 : Int32) <<< (x5_2 &&& 31)))), (5, .int x5_2), (0, .ref mo), (1, .ref mas), (2, .int p2), (3, .int p3)]) (pc := 38) hx hb dX9_membersOf_38 hl (by decide) rfl (fun ls hl => ?_)
          refine lv_iinc (v := (x5_2 + (1 : Int32))) (lv' := [(5, .int (x5_2 + (1 : Int32))), (4, .int (x4_2 ||| ((1 : Int32) <<< (x5_2 &&& 31)))), (0, .ref mo), (1, .ref mas), (2, .int p2), (3, .int p3)]) (pc := 40) hx hb dX9_membersOf_40 hl (k := 1) rfl rfl (by decide) rfl (fun ls hl => ?_)
          refine lv_goto (pc := 43) (tgt := 6) hx hb dX9_membersOf_43 (by decide) ?_
          exact ih _ _ _ (olp_l hz2 hL2) (lv_sub hl [0, 1, 2, 3, 4, 5] rfl)
  exact lp2 oFu _ _ _ hL2 (lv_sub hl [0, 1, 2, 3, 4, 5] rfl)
def fX9_gives_b3 (st : (Nat → Int32)) (p3 : Int32) (p2 : Int32) (p4 : Int32) (x5_2 : Int32) (nr_2 : (Nat → Int32)) : Option ((Int32 × (Nat → Int32)) ⊕ ((Nat → Int32))) := (if (st 0) ≤ x5_2 then (some (.inr nr_2)) else (ob1 (fX9_has p3 x5_2) (fun r_2 => (ob1 (if r_2 = (0 : Int32) then (ogd (p2 + x5_2) 12 (some (nr_2 (Int32.toNatClampNeg (p2 + x5_2))))) else (some p4)) (fun z0_2 => (ogd (p2 + x5_2) 12 (some (.inl ((x5_2 + (1 : Int32)), (upd nr_2 (Int32.toNatClampNeg (p2 + x5_2)) z0_2))))))))))
def fX9_gives_s3 (st : (Nat → Int32)) (p3 : Int32) (p2 : Int32) (p4 : Int32) (sg_ : Int32 × (Nat → Int32)) : Option ((Int32 × (Nat → Int32)) ⊕ ((Nat → Int32))) := fX9_gives_b3 st p3 p2 p4 sg_.1 sg_.2
def fX9_gives (p2 : Int32) (p3 : Int32) (p4 : Int32) (deeds : Int32) (sd : Int32) (ent : Int32) (st : (Nat → Int32)) (nr : (Nat → Int32)) : Option ((Nat → Int32)) := (ob1 (olp (fX9_gives_s3 st p3 p2 p4) oFu ((0 : Int32), nr)) (fun nr_3 => (some nr_3)))
abbrev wX9_gives (cI cZ cM cS : ClassId) (mo mst mpa mim mik mbi mbk mnr mia min mas mpr mfa mme mse : Nat) (deeds : Int32) (sd : Int32) (ent : Int32) (st : (Nat → Int32)) (nr : (Nat → Int32)) : va_W := [(mo, .inr (9, [.ref mst, .ref mpa, .int deeds, .ref mim, .ref mik, .int sd, .ref mbi, .ref mbk, .int ent, .ref mnr, .ref mia, .ref min, .ref mas, .ref mpr, .ref mfa, .ref mme, .ref mse])), (mst, .inl (cI, 76, .inl st)), (mnr, .inl (cI, 12, .inl nr))]
set_option maxHeartbeats 4000000 in
set_option maxRecDepth 100000 in
theorem tX9_gives (l : Launch) (D : va_G) (cI cZ cM cS : ClassId) (mo mst mpa mim mik mbi mbk mnr mia min mas mpr mfa mme mse : Nat) (deeds : Int32) (sd : Int32) (ent : Int32) (st : (Nat → Int32)) (nr : (Nat → Int32)) (p2 : Int32) (p3 : Int32) (p4 : Int32) {nr' : (Nat → Int32)} (hF : fX9_gives p2 p3 p4 deeds sd ent st nr = some nr') : zCW l yX9_gives wsX9_gives (zRm 1 21) D (zTy cI cZ cM cS) [.ref mo, .ref mnr, .int p2, .int p3, .int p4] (wX9_gives cI cZ cM cS mo mst mpa mim mik mbi mbk mnr mia min mas mpr mfa mme mse deeds sd ent st nr) (wX9_gives cI cZ cM cS mo mst mpa mim mik mbi mbk mnr mia min mas mpr mfa mme mse deeds sd ent st nr') none := by
  unfold fX9_gives at hF
  refine zCW_ofv (cc := cX9_gives) (maxL := 6) (own := RX9) (by decide) rfl rfl (Nat.le_of_ble_eq_true rfl) (fun p e s m args below meth c Q ls A E hA hK hP hD hRet hS hl => ?_)
  refine zgen (fun H locs hP hS => ?_) hP hS
  have hl : lv_has ls 6 [(0, .ref mo), (1, .ref mnr), (2, .int p2), (3, .int p3), (4, .int p4)] := hl
  obtain ⟨hx, hb, hml, hown, hts⟩ := id E
  have inX9 : ∀ w ∈ u_ws RX9 TX9 17, w ∈ wsX9_gives := by decide +kernel
  have fl7 := hts (.fieldLink RX9 7 "SplitClassesModel" "st" "[I") (by decide +kernel)
  refine lv_iconst (v := (0 : Int32)) (pc := 0) hx hb dX9_gives_0 (by decide) ?_
  refine lv_istore (lv' := [(5, .int (0 : Int32)), (0, .ref mo), (1, .ref mnr), (2, .int p2), (3, .int p3), (4, .int p4)]) (pc := 1) hx hb dX9_gives_1 hl (by decide) rfl (fun ls hl => ?_)
  obtain ⟨nr_3, hL5, hF⟩ := ob1_e hF
  have ex5 : ∀ (H : Heap) (locs : List Loc) (ls : Array Slot), va_P D vwCl (wX9_gives cI cZ cM cS mo mst mpa mim mik mbi mbk mnr mia min mas mpr mfa mme mse deeds sd ent st nr_3) H → va_D A (wX9_gives cI cZ cM cS mo mst mpa mim mik mbi mbk mnr mia min mas mpr mfa mme mse deeds sd ent st nr_3) → va_S A s.heap H locs → lv_has ls 6 [] → W p l e (zRm 1 21) s m args below meth c H locs 0 0 Q (F0 m 46 ls []) := by
    intro H locs ls hP hD hS hl
    cases hF
    exact hRet _ _ _ _ dX9_gives_46 hP hD hS
  have lp5 : ∀ (n : Nat) (x5_2 : Int32) (nr_2 : (Nat → Int32)) (H : Heap) (locs : List Loc) (ls : Array Slot), olp (fX9_gives_s3 st p3 p2 p4) n (x5_2, nr_2) = some nr_3 → va_P D vwCl (wX9_gives cI cZ cM cS mo mst mpa mim mik mbi mbk mnr mia min mas mpr mfa mme mse deeds sd ent st nr_2) H → va_D A (wX9_gives cI cZ cM cS mo mst mpa mim mik mbi mbk mnr mia min mas mpr mfa mme mse deeds sd ent st nr_2) → va_S A s.heap H locs → lv_has ls 6 [(5, .int x5_2), (0, .ref mo), (1, .ref mnr), (2, .int p2), (3, .int p3), (4, .int p4)] → W p l e (zRm 1 21) s m args below meth c H locs 0 0 Q (F0 m 3 ls []) := by
    intro n
    induction n with
    | zero => intro x5_2 nr_2 H locs ls hL; exact olp_0 hL
    | succ n ih =>
      intro x5_2 nr_2 H locs ls hL5 hP hD hS hl
      obtain ⟨z, hz5, hL5⟩ := olp_e hL5
      have hz5 : fX9_gives_b3 st p3 p2 p4 x5_2 nr_2 = some z := hz5
      unfold fX9_gives_b3 at hz5
      refine lv_iload (pc := 3) hx hb dX9_gives_3 (lv_at hl 0 rfl) ?_
      refine lv_aload_n (pc := 5) hx hb dX9_gives_5 rfl (lv_at hl 1 rfl) ?_
      refine va_get (pc := 6) (ci := 9) (C := RX9) (T := TX9) (N := 17) hx hb hts inX9 hown hK hP 0 rfl rfl 0 (by decide) fl7 (fun _ h9 => h9) rfl dX9_gives_6 ?_
      refine lv_iconst (v := (0 : Int32)) (pc := 9) hx hb dX9_gives_9 (by decide) ?_
      refine z_iald (pc := 10) (k := 0) hx hb hK hP 1 0 rfl rfl (by decide) (by decide) dX9_gives_10 ?_
      refine lv_icmp_ge (pc := 11) (tgt := 46) hx hb dX9_gives_11 (by decide) (fun hc => ?_) (fun hc => ?_)
      · have hz5 := oif_t hz5 hc
        have hE := olp_r hz5 hL5
        cases hE
        exact ex5 _ _ _ hP hD hS (lv_sub hl [] rfl)
      · have hz5 := oif_f hz5 hc
        refine lv_aload_n (pc := 14) hx hb dX9_gives_14 rfl (lv_at hl 2 rfl) ?_
        refine lv_iload_n (pc := 15) hx hb dX9_gives_15 rfl (lv_at hl 3 rfl) ?_
        refine lv_iload (pc := 16) hx hb dX9_gives_16 (lv_at hl 0 rfl) ?_
        refine lv_iadd (pc := 18) hx hb dX9_gives_18 ?_
        refine lv_iload_n (pc := 19) hx hb dX9_gives_19 rfl (lv_at hl 4 rfl) ?_
        refine lv_iload (pc := 20) hx hb dX9_gives_20 (lv_at hl 0 rfl) ?_
        obtain ⟨r_2, hC6, hz5⟩ := ob1_e hz5
        refine zSr (pc := 22) (As := [.int p3, .int x5_2]) (rest := [.int (p2 + x5_2), .ref mnr]) E (tX9_has l D cI cZ cM cS p3 x5_2 hC6) 2 gX9_gives_X9_has rfl rfl rfl (by decide +kernel) ⟨Nat.le_of_ble_eq_true rfl, Nat.le_of_ble_eq_true rfl⟩ hK hP [] rfl rfl hl.1 rfl (Nat.le_of_ble_eq_true rfl) dX9_gives_22 ⟨Nat.zero_le _, Nat.zero_le _⟩ ?_
        obtain ⟨z0_2, hM8, hz5⟩ := ob1_e hz5
        have jn8 : ∀ (H : Heap) (locs : List Loc) (ls : Array Slot), va_P D vwCl (wX9_gives cI cZ cM cS mo mst mpa mim mik mbi mbk mnr mia min mas mpr mfa mme mse deeds sd ent st nr_2) H → va_D A (wX9_gives cI cZ cM cS mo mst mpa mim mik mbi mbk mnr mia min mas mpr mfa mme mse deeds sd ent st nr_2) → va_S A s.heap H locs → lv_has ls 6 [(5, .int x5_2), (0, .ref mo), (1, .ref mnr), (2, .int p2), (3, .int p3), (4, .int p4)] → W p l e (zRm 1 21) s m args below meth c H locs 0 0 Q (F0 m 39 ls [.int z0_2, .int (p2 + x5_2), .ref mnr]) := by
          intro H locs ls hP hD hS hl
          obtain ⟨hg9, hz5⟩ := ogd_e hz5
          refine va_iast (pc := 39) hx hb hK hP hD hS 2 0 rfl rfl hg9 dX9_gives_39 (fun H locs hP hD hS => ?_)
          have hP : va_P D vwCl (wX9_gives cI cZ cM cS mo mst mpa mim mik mbi mbk mnr mia min mas mpr mfa mme mse deeds sd ent st (upd nr_2 (Int32.toNatClampNeg (p2 + x5_2)) z0_2)) H := hP
          have hD : va_D A (wX9_gives cI cZ cM cS mo mst mpa mim mik mbi mbk mnr mia min mas mpr mfa mme mse deeds sd ent st (upd nr_2 (Int32.toNatClampNeg (p2 + x5_2)) z0_2)) := hD
          refine lv_iinc (v := (x5_2 + (1 : Int32))) (lv' := [(5, .int (x5_2 + (1 : Int32))), (0, .ref mo), (1, .ref mnr), (2, .int p2), (3, .int p3), (4, .int p4)]) (pc := 40) hx hb dX9_gives_40 hl (k := 0) rfl rfl (by decide) rfl (fun ls hl => ?_)
          refine lv_goto (pc := 43) (tgt := 3) hx hb dX9_gives_43 (by decide) ?_
          exact ih _ _ _ _ _ (olp_l hz5 hL5) hP hD hS (lv_sub hl [0, 1, 2, 3, 4, 5] rfl)
        refine lv_if_eq (pc := 25) (tgt := 33) hx hb dX9_gives_25 (by decide) (fun hc => ?_) (fun hc => ?_)
        · have hM8 := oif_t hM8 hc
          refine lv_aload_n (pc := 33) hx hb dX9_gives_33 rfl (lv_at hl 2 rfl) ?_
          refine lv_iload_n (pc := 34) hx hb dX9_gives_34 rfl (lv_at hl 3 rfl) ?_
          refine lv_iload (pc := 35) hx hb dX9_gives_35 (lv_at hl 0 rfl) ?_
          refine lv_iadd (pc := 37) hx hb dX9_gives_37 ?_
          obtain ⟨hg10, hM8⟩ := ogd_e hM8
          refine va_iald (pc := 38) hx hb hK hP 2 0 rfl rfl hg10 dX9_gives_38 ?_
          cases hM8
          exact jn8 _ _ _ hP hD hS (lv_sub hl [0, 1, 2, 3, 4, 5] rfl)
        · have hM8 := oif_f hM8 hc
          refine lv_iload (pc := 28) hx hb dX9_gives_28 (lv_at hl 5 rfl) ?_
          refine lv_goto (pc := 30) (tgt := 39) hx hb dX9_gives_30 (by decide) ?_
          cases hM8
          exact jn8 _ _ _ hP hD hS (lv_sub hl [0, 1, 2, 3, 4, 5] rfl)
  exact lp5 oFu _ _ _ _ _ hL5 hP hD hS (lv_sub hl [0, 1, 2, 3, 4, 5] rfl)
def fX9_splits_b26 (r_1 : Int32) (p2 : Int32) (deeds : Int32) (sd : Int32) (ent : Int32) (st : (Nat → Int32)) (p3 : Int32) (x6_2 : Int32) (x5_3 : Int32) (nr_6 : (Nat → Int32)) : Option ((Int32 × Int32 × (Nat → Int32)) ⊕ ((Nat → Int32))) := (if r_1 ≤ x6_2 then (some (.inr nr_6)) else (ob1 (fX9_membersOf p2 x6_2 deeds sd ent st) (fun r_4 => (ob1 (fX9_membersOf p2 x6_2 deeds sd ent st) (fun r_5 => (ob2 (if (r_4 &&& p3) = (0 : Int32) then (some (x5_3, nr_6)) else (ob1 (fX9_gives (0 : Int32) (r_4 &&& p3) x5_3 deeds sd ent st nr_6) (fun nr_11 => (some ((x5_3 + (1 : Int32)), nr_11))))) (fun x5_4 nr_9 => (if (r_5 &&& (p3 ^^^ (-1 : Int32))) = (0 : Int32) then (some (.inl ((x6_2 + (1 : Int32)), x5_4, nr_9))) else (ob1 (fX9_gives (0 : Int32) (r_5 &&& (p3 ^^^ (-1 : Int32))) x5_4 deeds sd ent st nr_9) (fun nr_10 => (some (.inl ((x6_2 + (1 : Int32)), (x5_4 + (1 : Int32)), nr_10)))))))))))))
def fX9_splits_s26 (r_1 : Int32) (p2 : Int32) (deeds : Int32) (sd : Int32) (ent : Int32) (st : (Nat → Int32)) (p3 : Int32) (sg_ : Int32 × Int32 × (Nat → Int32)) : Option ((Int32 × Int32 × (Nat → Int32)) ⊕ ((Nat → Int32))) := fX9_splits_b26 r_1 p2 deeds sd ent st p3 sg_.1 sg_.2.1 sg_.2.2
def fX9_splits (p2 : Int32) (p3 : Int32) (deeds : Int32) (sd : Int32) (ent : Int32) (st : (Nat → Int32)) (nr : (Nat → Int32)) : Option ((Nat → Int32) × (Nat → Int32)) := (ob1 (fX9_classes p2 deeds sd ent st) (fun r_1 => (ob1 (fX9_bring 76 12 p2 (0 : Int32) (12 : Int32) st nr) (fun nr_1 => (ob1 (olp (fX9_splits_s26 r_1 p2 deeds sd ent st p3) oFu ((0 : Int32), (0 : Int32), nr_1)) (fun nr_7 => (ob1 (fX9_bring 12 76 (0 : Int32) p2 (12 : Int32) nr_7 st) (fun st_2 => (some (st_2, nr_7))))))))))
abbrev wX9_splits (cI cZ cM cS : ClassId) (mo mst mpa mim mik mbi mbk mnr mia min mas mpr mfa mme mse : Nat) (deeds : Int32) (sd : Int32) (ent : Int32) (st : (Nat → Int32)) (nr : (Nat → Int32)) : va_W := [(mo, .inr (9, [.ref mst, .ref mpa, .int deeds, .ref mim, .ref mik, .int sd, .ref mbi, .ref mbk, .int ent, .ref mnr, .ref mia, .ref min, .ref mas, .ref mpr, .ref mfa, .ref mme, .ref mse])), (mst, .inl (cI, 76, .inl st)), (mnr, .inl (cI, 12, .inl nr))]
set_option maxHeartbeats 4000000 in
set_option maxRecDepth 100000 in
theorem tX9_splits (l : Launch) (D : va_G) (cI cZ cM cS : ClassId) (mo mst mpa mim mik mbi mbk mnr mia min mas mpr mfa mme mse : Nat) (deeds : Int32) (sd : Int32) (ent : Int32) (st : (Nat → Int32)) (nr : (Nat → Int32)) (p2 : Int32) (p3 : Int32) {st' : (Nat → Int32)} {nr' : (Nat → Int32)} (hF : fX9_splits p2 p3 deeds sd ent st nr = some (st', nr')) : zCW l yX9_splits wsX9_splits (zRm 2 46) D (zTy cI cZ cM cS) [.ref mo, .ref mst, .int p2, .int p3] (wX9_splits cI cZ cM cS mo mst mpa mim mik mbi mbk mnr mia min mas mpr mfa mme mse deeds sd ent st nr) (wX9_splits cI cZ cM cS mo mst mpa mim mik mbi mbk mnr mia min mas mpr mfa mme mse deeds sd ent st' nr') none := by
  unfold fX9_splits at hF
  refine zCW_ofv (cc := cX9_splits) (maxL := 9) (own := RX9) (by decide) rfl rfl (Nat.le_of_ble_eq_true rfl) (fun p e s m args below meth c Q ls A E hA hK hP hD hRet hS hl => ?_)
  refine zgen (fun H locs hP hS => ?_) hP hS
  have hl : lv_has ls 9 [(0, .ref mo), (1, .ref mst), (2, .int p2), (3, .int p3)] := hl
  obtain ⟨hx, hb, hml, hown, hts⟩ := id E
  have inX9 : ∀ w ∈ u_ws RX9 TX9 17, w ∈ wsX9_splits := by decide +kernel
  have fl29 := hts (.fieldLink RX9 29 "SplitClassesModel" "newRow" "[I") (by decide +kernel)
  refine lv_aload_n (pc := 0) hx hb dX9_splits_0 rfl (lv_at hl 0 rfl) ?_
  refine lv_aload_n (pc := 1) hx hb dX9_splits_1 rfl (lv_at hl 1 rfl) ?_
  refine lv_iload_n (pc := 2) hx hb dX9_splits_2 rfl (lv_at hl 2 rfl) ?_
  obtain ⟨r_1, hC1, hF⟩ := ob1_e hF
  refine zVr (pc := 3) (As := [.ref mst, .int p2]) (rest := []) E (tX9_classes l D cI cZ cM cS mo mst mpa mim mik mbi mbk mnr mia min mas mpr mfa mme mse deeds sd ent st p2 hC1) 2 gX9_splits_X9_classes rfl rfl rfl (by decide +kernel) ⟨Nat.le_of_ble_eq_true rfl, Nat.le_of_ble_eq_true rfl⟩ hK hP [0, 1] rfl 0 9 rfl rfl rfl rfl hl.1 rfl (Nat.le_of_ble_eq_true rfl) dX9_splits_3 ⟨Nat.zero_le _, Nat.zero_le _⟩ ?_
  refine lv_istore (lv' := [(4, .int r_1), (0, .ref mo), (1, .ref mst), (2, .int p2), (3, .int p3)]) (pc := 6) hx hb dX9_splits_6 hl (by decide) rfl (fun ls hl => ?_)
  refine lv_iconst (v := (0 : Int32)) (pc := 8) hx hb dX9_splits_8 (by decide) ?_
  refine lv_istore (lv' := [(5, .int (0 : Int32)), (4, .int r_1), (0, .ref mo), (1, .ref mst), (2, .int p2), (3, .int p3)]) (pc := 9) hx hb dX9_splits_9 hl (by decide) rfl (fun ls hl => ?_)
  refine lv_aload_n (pc := 11) hx hb dX9_splits_11 rfl (lv_at hl 3 rfl) ?_
  refine lv_iload_n (pc := 12) hx hb dX9_splits_12 rfl (lv_at hl 4 rfl) ?_
  refine lv_aload_n (pc := 13) hx hb dX9_splits_13 rfl (lv_at hl 2 rfl) ?_
  refine va_get (pc := 14) (ci := 9) (C := RX9) (T := TX9) (N := 17) hx hb hts inX9 hown hK hP 0 rfl rfl 9 (by decide) fl29 (fun _ h9 => h9) rfl dX9_splits_14 ?_
  refine lv_iconst (v := (0 : Int32)) (pc := 17) hx hb dX9_splits_17 (by decide) ?_
  refine lv_bipush (v := (12 : Int32)) (pc := 18) hx hb dX9_splits_18 (by decide) ?_
  obtain ⟨nr_1, hC2, hF⟩ := ob1_e hF
  refine zS (pc := 20) (As := [.ref mst, .int p2, .ref mnr, .int (0 : Int32), .int (12 : Int32)]) (rest := []) (wr := [(mo, .inr (9, [.ref mst, .ref mpa, .int deeds, .ref mim, .ref mik, .int sd, .ref mbi, .ref mbk, .int ent, .ref mnr, .ref mia, .ref min, .ref mas, .ref mpr, .ref mfa, .ref mme, .ref mse]))]) (w2 := (wX9_splits cI cZ cM cS mo mst mpa mim mik mbi mbk mnr mia min mas mpr mfa mme mse deeds sd ent st nr_1)) E (tX9_bring l D cI cZ cM cS mst mnr 76 12 st nr p2 (0 : Int32) (12 : Int32) hC2) 5 gX9_splits_X9_bring rfl rfl rfl (by decide +kernel) ⟨Nat.le_of_ble_eq_true rfl, Nat.le_of_ble_eq_true rfl⟩ hK hP hD hS hA [1, 2] [0] [0, 1, 2] (by decide) rfl rfl (by decide) (by decide) rfl (by decide) rfl hl.1 rfl (Nat.le_of_ble_eq_true rfl) dX9_splits_20 ⟨Nat.zero_le _, Nat.zero_le _⟩ (fun H locs hP hD hS => ?_)
  refine W.eq (g2 := F0 m 23 ls []) rfl ?_
  refine lv_iconst (v := (0 : Int32)) (pc := 23) hx hb dX9_splits_23 (by decide) ?_
  refine lv_istore (lv' := [(6, .int (0 : Int32)), (5, .int (0 : Int32)), (4, .int r_1), (0, .ref mo), (1, .ref mst), (2, .int p2), (3, .int p3)]) (pc := 24) hx hb dX9_splits_24 hl (by decide) rfl (fun ls hl => ?_)
  obtain ⟨nr_7, hL8, hF⟩ := ob1_e hF
  have ex8 : ∀ (H : Heap) (locs : List Loc) (ls : Array Slot), va_P D vwCl (wX9_splits cI cZ cM cS mo mst mpa mim mik mbi mbk mnr mia min mas mpr mfa mme mse deeds sd ent st nr_7) H → va_D A (wX9_splits cI cZ cM cS mo mst mpa mim mik mbi mbk mnr mia min mas mpr mfa mme mse deeds sd ent st nr_7) → va_S A s.heap H locs → lv_has ls 9 [(0, .ref mo), (1, .ref mst), (2, .int p2)] → W p l e (zRm 2 46) s m args below meth c H locs 0 0 Q (F0 m 107 ls []) := by
    intro H locs ls hP hD hS hl
    refine lv_aload_n (pc := 107) hx hb dX9_splits_107 rfl (lv_at hl 0 rfl) ?_
    refine va_get (pc := 108) (ci := 9) (C := RX9) (T := TX9) (N := 17) hx hb hts inX9 hown hK hP 0 rfl rfl 9 (by decide) fl29 (fun _ h9 => h9) rfl dX9_splits_108 ?_
    refine lv_iconst (v := (0 : Int32)) (pc := 111) hx hb dX9_splits_111 (by decide) ?_
    refine lv_aload_n (pc := 112) hx hb dX9_splits_112 rfl (lv_at hl 1 rfl) ?_
    refine lv_iload_n (pc := 113) hx hb dX9_splits_113 rfl (lv_at hl 2 rfl) ?_
    refine lv_bipush (v := (12 : Int32)) (pc := 114) hx hb dX9_splits_114 (by decide) ?_
    obtain ⟨st_2, hC15, hF⟩ := ob1_e hF
    refine zS (pc := 116) (As := [.ref mnr, .int (0 : Int32), .ref mst, .int p2, .int (12 : Int32)]) (rest := []) (wr := [(mo, .inr (9, [.ref mst, .ref mpa, .int deeds, .ref mim, .ref mik, .int sd, .ref mbi, .ref mbk, .int ent, .ref mnr, .ref mia, .ref min, .ref mas, .ref mpr, .ref mfa, .ref mme, .ref mse]))]) (w2 := (wX9_splits cI cZ cM cS mo mst mpa mim mik mbi mbk mnr mia min mas mpr mfa mme mse deeds sd ent st_2 nr_7)) E (tX9_bring l D cI cZ cM cS mnr mst 12 76 nr_7 st (0 : Int32) p2 (12 : Int32) hC15) 5 gX9_splits_X9_bring rfl rfl rfl (by decide +kernel) ⟨Nat.le_of_ble_eq_true rfl, Nat.le_of_ble_eq_true rfl⟩ hK hP hD hS hA [2, 1] [0] [0, 2, 1] (by decide) rfl rfl (by decide) (by decide) rfl (by decide) rfl hl.1 rfl (Nat.le_of_ble_eq_true rfl) dX9_splits_116 ⟨Nat.zero_le _, Nat.zero_le _⟩ (fun H locs hP hD hS => ?_)
    refine W.eq (g2 := F0 m 119 ls []) rfl ?_
    cases hF
    exact hRet _ _ _ _ dX9_splits_119 hP hD hS
  have lp8 : ∀ (n : Nat) (x6_2 : Int32) (x5_3 : Int32) (nr_6 : (Nat → Int32)) (H : Heap) (locs : List Loc) (ls : Array Slot), olp (fX9_splits_s26 r_1 p2 deeds sd ent st p3) n (x6_2, x5_3, nr_6) = some nr_7 → va_P D vwCl (wX9_splits cI cZ cM cS mo mst mpa mim mik mbi mbk mnr mia min mas mpr mfa mme mse deeds sd ent st nr_6) H → va_D A (wX9_splits cI cZ cM cS mo mst mpa mim mik mbi mbk mnr mia min mas mpr mfa mme mse deeds sd ent st nr_6) → va_S A s.heap H locs → lv_has ls 9 [(6, .int x6_2), (5, .int x5_3), (4, .int r_1), (0, .ref mo), (1, .ref mst), (2, .int p2), (3, .int p3)] → W p l e (zRm 2 46) s m args below meth c H locs 0 0 Q (F0 m 26 ls []) := by
    intro n
    induction n with
    | zero => intro x6_2 x5_3 nr_6 H locs ls hL; exact olp_0 hL
    | succ n ih =>
      intro x6_2 x5_3 nr_6 H locs ls hL8 hP hD hS hl
      obtain ⟨z, hz8, hL8⟩ := olp_e hL8
      have hz8 : fX9_splits_b26 r_1 p2 deeds sd ent st p3 x6_2 x5_3 nr_6 = some z := hz8
      unfold fX9_splits_b26 at hz8
      refine lv_iload (pc := 26) hx hb dX9_splits_26 (lv_at hl 0 rfl) ?_
      refine lv_iload (pc := 28) hx hb dX9_splits_28 (lv_at hl 2 rfl) ?_
      refine lv_icmp_ge (pc := 30) (tgt := 107) hx hb dX9_splits_30 (by decide) (fun hc => ?_) (fun hc => ?_)
      · have hz8 := oif_t hz8 hc
        have hE := olp_r hz8 hL8
        cases hE
        exact ex8 _ _ _ hP hD hS (lv_sub hl [3, 4, 5] rfl)
      · have hz8 := oif_f hz8 hc
        refine lv_aload_n (pc := 33) hx hb dX9_splits_33 rfl (lv_at hl 3 rfl) ?_
        refine lv_aload_n (pc := 34) hx hb dX9_splits_34 rfl (lv_at hl 4 rfl) ?_
        refine lv_iload_n (pc := 35) hx hb dX9_splits_35 rfl (lv_at hl 5 rfl) ?_
        refine lv_iload (pc := 36) hx hb dX9_splits_36 (lv_at hl 0 rfl) ?_
        obtain ⟨r_4, hC9, hz8⟩ := ob1_e hz8
        refine zVr (pc := 38) (As := [.ref mst, .int p2, .int x6_2]) (rest := []) E (tX9_membersOf l D cI cZ cM cS mo mst mpa mim mik mbi mbk mnr mia min mas mpr mfa mme mse deeds sd ent st p2 x6_2 hC9) 3 gX9_splits_X9_membersOf rfl rfl rfl (by decide +kernel) ⟨Nat.le_of_ble_eq_true rfl, Nat.le_of_ble_eq_true rfl⟩ hK hP [0, 1] rfl 0 9 rfl rfl rfl rfl hl.1 rfl (Nat.le_of_ble_eq_true rfl) dX9_splits_38 ⟨Nat.zero_le _, Nat.zero_le _⟩ ?_
        refine lv_iload_n (pc := 41) hx hb dX9_splits_41 rfl (lv_at hl 6 rfl) ?_
        refine lv_iand (pc := 42) hx hb dX9_splits_42 ?_
        refine lv_istore (lv' := [(7, .int (r_4 &&& p3)), (6, .int x6_2), (5, .int x5_3), (4, .int r_1), (0, .ref mo), (1, .ref mst), (2, .int p2), (3, .int p3)]) (pc := 43) hx hb dX9_splits_43 hl (by decide) rfl (fun ls hl => ?_)
        refine lv_aload_n (pc := 45) hx hb dX9_splits_45 rfl (lv_at hl 4 rfl) ?_
        refine lv_aload_n (pc := 46) hx hb dX9_splits_46 rfl (lv_at hl 5 rfl) ?_
        refine lv_iload_n (pc := 47) hx hb dX9_splits_47 rfl (lv_at hl 6 rfl) ?_
        refine lv_iload (pc := 48) hx hb dX9_splits_48 (lv_at hl 1 rfl) ?_
        obtain ⟨r_5, hC10, hz8⟩ := ob1_e hz8
        refine zVr (pc := 50) (As := [.ref mst, .int p2, .int x6_2]) (rest := []) E (tX9_membersOf l D cI cZ cM cS mo mst mpa mim mik mbi mbk mnr mia min mas mpr mfa mme mse deeds sd ent st p2 x6_2 hC10) 3 gX9_splits_X9_membersOf rfl rfl rfl (by decide +kernel) ⟨Nat.le_of_ble_eq_true rfl, Nat.le_of_ble_eq_true rfl⟩ hK hP [0, 1] rfl 0 9 rfl rfl rfl rfl hl.1 rfl (Nat.le_of_ble_eq_true rfl) dX9_splits_50 ⟨Nat.zero_le _, Nat.zero_le _⟩ ?_
        refine lv_iload_n (pc := 53) hx hb dX9_splits_53 rfl (lv_at hl 7 rfl) ?_
        refine lv_iconst (v := (-1 : Int32)) (pc := 54) hx hb dX9_splits_54 (by decide) ?_
        refine lv_ixor (pc := 55) hx hb dX9_splits_55 ?_
        refine lv_iand (pc := 56) hx hb dX9_splits_56 ?_
        refine lv_istore (lv' := [(8, .int (r_5 &&& (p3 ^^^ (-1 : Int32)))), (7, .int (r_4 &&& p3)), (6, .int x6_2), (5, .int x5_3), (4, .int r_1), (0, .ref mo), (1, .ref mst), (2, .int p2), (3, .int p3)]) (pc := 57) hx hb dX9_splits_57 hl (by decide) rfl (fun ls hl => ?_)
        refine lv_iload (pc := 59) hx hb dX9_splits_59 (lv_at hl 1 rfl) ?_
        obtain ⟨x5_4, nr_9, hM12, hz8⟩ := ob2_e hz8
        have jn12 : ∀ (H : Heap) (locs : List Loc) (ls : Array Slot), va_P D vwCl (wX9_splits cI cZ cM cS mo mst mpa mim mik mbi mbk mnr mia min mas mpr mfa mme mse deeds sd ent st nr_9) H → va_D A (wX9_splits cI cZ cM cS mo mst mpa mim mik mbi mbk mnr mia min mas mpr mfa mme mse deeds sd ent st nr_9) → va_S A s.heap H locs → lv_has ls 9 [(8, .int (r_5 &&& (p3 ^^^ (-1 : Int32)))), (6, .int x6_2), (5, .int x5_4), (4, .int r_1), (0, .ref mo), (1, .ref mst), (2, .int p2), (3, .int p3)] → W p l e (zRm 2 46) s m args below meth c H locs 0 0 Q (F0 m 80 ls []) := by
          intro H locs ls hP hD hS hl
          refine lv_iload (pc := 80) hx hb dX9_splits_80 (lv_at hl 0 rfl) ?_
          refine lv_if_eq (pc := 82) (tgt := 101) hx hb dX9_splits_82 (by decide) (fun hc => ?_) (fun hc => ?_)
          · have hz8 := oif_t hz8 hc
            refine lv_iinc (v := (x6_2 + (1 : Int32))) (lv' := [(6, .int (x6_2 + (1 : Int32))), (8, .int (r_5 &&& (p3 ^^^ (-1 : Int32)))), (5, .int x5_4), (4, .int r_1), (0, .ref mo), (1, .ref mst), (2, .int p2), (3, .int p3)]) (pc := 101) hx hb dX9_splits_101 hl (k := 1) rfl rfl (by decide) rfl (fun ls hl => ?_)
            refine lv_goto (pc := 104) (tgt := 26) hx hb dX9_splits_104 (by decide) ?_
            exact ih _ _ _ _ _ _ (olp_l hz8 hL8) hP hD hS (lv_sub hl [0, 2, 3, 4, 5, 6, 7] rfl)
          · have hz8 := oif_f hz8 hc
            refine lv_aload_n (pc := 85) hx hb dX9_splits_85 rfl (lv_at hl 4 rfl) ?_
            refine lv_aload_n (pc := 86) hx hb dX9_splits_86 rfl (lv_at hl 4 rfl) ?_
            refine va_get (pc := 87) (ci := 9) (C := RX9) (T := TX9) (N := 17) hx hb hts inX9 hown hK hP 0 rfl rfl 9 (by decide) fl29 (fun _ h9 => h9) rfl dX9_splits_87 ?_
            refine lv_iconst (v := (0 : Int32)) (pc := 90) hx hb dX9_splits_90 (by decide) ?_
            refine lv_iload (pc := 91) hx hb dX9_splits_91 (lv_at hl 0 rfl) ?_
            refine lv_iload (pc := 93) hx hb dX9_splits_93 (lv_at hl 2 rfl) ?_
            obtain ⟨nr_10, hC13, hz8⟩ := ob1_e hz8
            refine zV (pc := 95) (As := [.ref mnr, .int (0 : Int32), .int (r_5 &&& (p3 ^^^ (-1 : Int32))), .int x5_4]) (rest := []) (wr := []) (w2 := (wX9_splits cI cZ cM cS mo mst mpa mim mik mbi mbk mnr mia min mas mpr mfa mme mse deeds sd ent st nr_10)) E (tX9_gives l D cI cZ cM cS mo mst mpa mim mik mbi mbk mnr mia min mas mpr mfa mme mse deeds sd ent st nr_9 (0 : Int32) (r_5 &&& (p3 ^^^ (-1 : Int32))) x5_4 hC13) 4 gX9_splits_X9_gives rfl rfl rfl (by decide +kernel) ⟨Nat.le_of_ble_eq_true rfl, Nat.le_of_ble_eq_true rfl⟩ hK hP hD hS hA [0, 1, 2] [] [0, 1, 2] (by decide) rfl rfl (by decide) (by decide) rfl (by decide) 0 9 rfl rfl rfl rfl hl.1 rfl (Nat.le_of_ble_eq_true rfl) dX9_splits_95 ⟨Nat.zero_le _, Nat.zero_le _⟩ (fun H locs hP hD hS => ?_)
            refine W.eq (g2 := F0 m 98 ls []) rfl ?_
            refine lv_iinc (v := (x5_4 + (1 : Int32))) (lv' := [(5, .int (x5_4 + (1 : Int32))), (8, .int (r_5 &&& (p3 ^^^ (-1 : Int32)))), (6, .int x6_2), (4, .int r_1), (0, .ref mo), (1, .ref mst), (2, .int p2), (3, .int p3)]) (pc := 98) hx hb dX9_splits_98 hl (k := 2) rfl rfl (by decide) rfl (fun ls hl => ?_)
            refine lv_iinc (v := (x6_2 + (1 : Int32))) (lv' := [(6, .int (x6_2 + (1 : Int32))), (5, .int (x5_4 + (1 : Int32))), (8, .int (r_5 &&& (p3 ^^^ (-1 : Int32)))), (4, .int r_1), (0, .ref mo), (1, .ref mst), (2, .int p2), (3, .int p3)]) (pc := 101) hx hb dX9_splits_101 hl (k := 2) rfl rfl (by decide) rfl (fun ls hl => ?_)
            refine lv_goto (pc := 104) (tgt := 26) hx hb dX9_splits_104 (by decide) ?_
            exact ih _ _ _ _ _ _ (olp_l hz8 hL8) hP hD hS (lv_sub hl [0, 1, 3, 4, 5, 6, 7] rfl)
        refine lv_if_eq (pc := 61) (tgt := 80) hx hb dX9_splits_61 (by decide) (fun hc => ?_) (fun hc => ?_)
        · have hM12 := oif_t hM12 hc
          cases hM12
          exact jn12 _ _ _ hP hD hS (lv_sub hl [0, 2, 3, 4, 5, 6, 7, 8] rfl)
        · have hM12 := oif_f hM12 hc
          refine lv_aload_n (pc := 64) hx hb dX9_splits_64 rfl (lv_at hl 5 rfl) ?_
          refine lv_aload_n (pc := 65) hx hb dX9_splits_65 rfl (lv_at hl 5 rfl) ?_
          refine va_get (pc := 66) (ci := 9) (C := RX9) (T := TX9) (N := 17) hx hb hts inX9 hown hK hP 0 rfl rfl 9 (by decide) fl29 (fun _ h9 => h9) rfl dX9_splits_66 ?_
          refine lv_iconst (v := (0 : Int32)) (pc := 69) hx hb dX9_splits_69 (by decide) ?_
          refine lv_iload (pc := 70) hx hb dX9_splits_70 (lv_at hl 1 rfl) ?_
          refine lv_iload (pc := 72) hx hb dX9_splits_72 (lv_at hl 3 rfl) ?_
          obtain ⟨nr_11, hC14, hM12⟩ := ob1_e hM12
          refine zV (pc := 74) (As := [.ref mnr, .int (0 : Int32), .int (r_4 &&& p3), .int x5_3]) (rest := []) (wr := []) (w2 := (wX9_splits cI cZ cM cS mo mst mpa mim mik mbi mbk mnr mia min mas mpr mfa mme mse deeds sd ent st nr_11)) E (tX9_gives l D cI cZ cM cS mo mst mpa mim mik mbi mbk mnr mia min mas mpr mfa mme mse deeds sd ent st nr_6 (0 : Int32) (r_4 &&& p3) x5_3 hC14) 4 gX9_splits_X9_gives rfl rfl rfl (by decide +kernel) ⟨Nat.le_of_ble_eq_true rfl, Nat.le_of_ble_eq_true rfl⟩ hK hP hD hS hA [0, 1, 2] [] [0, 1, 2] (by decide) rfl rfl (by decide) (by decide) rfl (by decide) 0 9 rfl rfl rfl rfl hl.1 rfl (Nat.le_of_ble_eq_true rfl) dX9_splits_74 ⟨Nat.zero_le _, Nat.zero_le _⟩ (fun H locs hP hD hS => ?_)
          refine W.eq (g2 := F0 m 77 ls []) rfl ?_
          refine lv_iinc (v := (x5_3 + (1 : Int32))) (lv' := [(5, .int (x5_3 + (1 : Int32))), (8, .int (r_5 &&& (p3 ^^^ (-1 : Int32)))), (7, .int (r_4 &&& p3)), (6, .int x6_2), (4, .int r_1), (0, .ref mo), (1, .ref mst), (2, .int p2), (3, .int p3)]) (pc := 77) hx hb dX9_splits_77 hl (k := 3) rfl rfl (by decide) rfl (fun ls hl => ?_)
          cases hM12
          exact jn12 _ _ _ hP hD hS (lv_sub hl [1, 3, 0, 4, 5, 6, 7, 8] rfl)
  exact lp8 oFu _ _ _ _ _ _ hL8 hP hD hS (lv_sub hl [0, 1, 2, 3, 4, 5, 6] rfl)
def fX9_splits_a_b26 (r_1 : Int32) (p2 : Int32) (deeds : Int32) (sd : Int32) (ent : Int32) (st : (Nat → Int32)) (asd : (Nat → Int32)) (p3 : Int32) (x6_2 : Int32) (x5_3 : Int32) (nr_6 : (Nat → Int32)) : Option ((Int32 × Int32 × (Nat → Int32)) ⊕ ((Nat → Int32))) := (if r_1 ≤ x6_2 then (some (.inr nr_6)) else (ob1 (fX9_membersOf_a p2 x6_2 deeds sd ent st asd) (fun r_4 => (ob1 (fX9_membersOf_a p2 x6_2 deeds sd ent st asd) (fun r_5 => (ob2 (if (r_4 &&& p3) = (0 : Int32) then (some (x5_3, nr_6)) else (ob1 (fX9_gives (0 : Int32) (r_4 &&& p3) x5_3 deeds sd ent st nr_6) (fun nr_11 => (some ((x5_3 + (1 : Int32)), nr_11))))) (fun x5_4 nr_9 => (if (r_5 &&& (p3 ^^^ (-1 : Int32))) = (0 : Int32) then (some (.inl ((x6_2 + (1 : Int32)), x5_4, nr_9))) else (ob1 (fX9_gives (0 : Int32) (r_5 &&& (p3 ^^^ (-1 : Int32))) x5_4 deeds sd ent st nr_9) (fun nr_10 => (some (.inl ((x6_2 + (1 : Int32)), (x5_4 + (1 : Int32)), nr_10)))))))))))))
def fX9_splits_a_s26 (r_1 : Int32) (p2 : Int32) (deeds : Int32) (sd : Int32) (ent : Int32) (st : (Nat → Int32)) (asd : (Nat → Int32)) (p3 : Int32) (sg_ : Int32 × Int32 × (Nat → Int32)) : Option ((Int32 × Int32 × (Nat → Int32)) ⊕ ((Nat → Int32))) := fX9_splits_a_b26 r_1 p2 deeds sd ent st asd p3 sg_.1 sg_.2.1 sg_.2.2
def fX9_splits_a (p2 : Int32) (p3 : Int32) (deeds : Int32) (sd : Int32) (ent : Int32) (st : (Nat → Int32)) (nr : (Nat → Int32)) (asd : (Nat → Int32)) : Option ((Nat → Int32) × (Nat → Int32)) := (ob1 (fX9_classes_a p2 deeds sd ent st asd) (fun r_1 => (ob1 (fX9_bring 12 12 p2 (0 : Int32) (12 : Int32) asd nr) (fun nr_1 => (ob1 (olp (fX9_splits_a_s26 r_1 p2 deeds sd ent st asd p3) oFu ((0 : Int32), (0 : Int32), nr_1)) (fun nr_7 => (ob1 (fX9_bring 12 12 (0 : Int32) p2 (12 : Int32) nr_7 asd) (fun asd_2 => (some (nr_7, asd_2))))))))))
abbrev wX9_splits_a (cI cZ cM cS : ClassId) (mo mst mpa mim mik mbi mbk mnr mia min mas mpr mfa mme mse : Nat) (deeds : Int32) (sd : Int32) (ent : Int32) (st : (Nat → Int32)) (nr : (Nat → Int32)) (asd : (Nat → Int32)) : va_W := [(mo, .inr (9, [.ref mst, .ref mpa, .int deeds, .ref mim, .ref mik, .int sd, .ref mbi, .ref mbk, .int ent, .ref mnr, .ref mia, .ref min, .ref mas, .ref mpr, .ref mfa, .ref mme, .ref mse])), (mst, .inl (cI, 76, .inl st)), (mnr, .inl (cI, 12, .inl nr)), (mas, .inl (cI, 12, .inl asd))]
set_option maxHeartbeats 4000000 in
set_option maxRecDepth 100000 in
theorem tX9_splits_a (l : Launch) (D : va_G) (cI cZ cM cS : ClassId) (mo mst mpa mim mik mbi mbk mnr mia min mas mpr mfa mme mse : Nat) (deeds : Int32) (sd : Int32) (ent : Int32) (st : (Nat → Int32)) (nr : (Nat → Int32)) (asd : (Nat → Int32)) (p2 : Int32) (p3 : Int32) {nr' : (Nat → Int32)} {asd' : (Nat → Int32)} (hF : fX9_splits_a p2 p3 deeds sd ent st nr asd = some (nr', asd')) : zCW l yX9_splits wsX9_splits (zRm 2 46) D (zTy cI cZ cM cS) [.ref mo, .ref mas, .int p2, .int p3] (wX9_splits_a cI cZ cM cS mo mst mpa mim mik mbi mbk mnr mia min mas mpr mfa mme mse deeds sd ent st nr asd) (wX9_splits_a cI cZ cM cS mo mst mpa mim mik mbi mbk mnr mia min mas mpr mfa mme mse deeds sd ent st nr' asd') none := by
  unfold fX9_splits_a at hF
  refine zCW_ofv (cc := cX9_splits) (maxL := 9) (own := RX9) (by decide) rfl rfl (Nat.le_of_ble_eq_true rfl) (fun p e s m args below meth c Q ls A E hA hK hP hD hRet hS hl => ?_)
  refine zgen (fun H locs hP hS => ?_) hP hS
  have hl : lv_has ls 9 [(0, .ref mo), (1, .ref mas), (2, .int p2), (3, .int p3)] := hl
  obtain ⟨hx, hb, hml, hown, hts⟩ := id E
  have inX9 : ∀ w ∈ u_ws RX9 TX9 17, w ∈ wsX9_splits := by decide +kernel
  have fl29 := hts (.fieldLink RX9 29 "SplitClassesModel" "newRow" "[I") (by decide +kernel)
  refine lv_aload_n (pc := 0) hx hb dX9_splits_0 rfl (lv_at hl 0 rfl) ?_
  refine lv_aload_n (pc := 1) hx hb dX9_splits_1 rfl (lv_at hl 1 rfl) ?_
  refine lv_iload_n (pc := 2) hx hb dX9_splits_2 rfl (lv_at hl 2 rfl) ?_
  obtain ⟨r_1, hC1, hF⟩ := ob1_e hF
  refine zVr (pc := 3) (As := [.ref mas, .int p2]) (rest := []) E (tX9_classes_a l D cI cZ cM cS mo mst mpa mim mik mbi mbk mnr mia min mas mpr mfa mme mse deeds sd ent st asd p2 hC1) 2 gX9_splits_X9_classes rfl rfl rfl (by decide +kernel) ⟨Nat.le_of_ble_eq_true rfl, Nat.le_of_ble_eq_true rfl⟩ hK hP [0, 1, 3] rfl 0 9 rfl rfl rfl rfl hl.1 rfl (Nat.le_of_ble_eq_true rfl) dX9_splits_3 ⟨Nat.zero_le _, Nat.zero_le _⟩ ?_
  refine lv_istore (lv' := [(4, .int r_1), (0, .ref mo), (1, .ref mas), (2, .int p2), (3, .int p3)]) (pc := 6) hx hb dX9_splits_6 hl (by decide) rfl (fun ls hl => ?_)
  refine lv_iconst (v := (0 : Int32)) (pc := 8) hx hb dX9_splits_8 (by decide) ?_
  refine lv_istore (lv' := [(5, .int (0 : Int32)), (4, .int r_1), (0, .ref mo), (1, .ref mas), (2, .int p2), (3, .int p3)]) (pc := 9) hx hb dX9_splits_9 hl (by decide) rfl (fun ls hl => ?_)
  refine lv_aload_n (pc := 11) hx hb dX9_splits_11 rfl (lv_at hl 3 rfl) ?_
  refine lv_iload_n (pc := 12) hx hb dX9_splits_12 rfl (lv_at hl 4 rfl) ?_
  refine lv_aload_n (pc := 13) hx hb dX9_splits_13 rfl (lv_at hl 2 rfl) ?_
  refine va_get (pc := 14) (ci := 9) (C := RX9) (T := TX9) (N := 17) hx hb hts inX9 hown hK hP 0 rfl rfl 9 (by decide) fl29 (fun _ h9 => h9) rfl dX9_splits_14 ?_
  refine lv_iconst (v := (0 : Int32)) (pc := 17) hx hb dX9_splits_17 (by decide) ?_
  refine lv_bipush (v := (12 : Int32)) (pc := 18) hx hb dX9_splits_18 (by decide) ?_
  obtain ⟨nr_1, hC2, hF⟩ := ob1_e hF
  refine zS (pc := 20) (As := [.ref mas, .int p2, .ref mnr, .int (0 : Int32), .int (12 : Int32)]) (rest := []) (wr := [(mo, .inr (9, [.ref mst, .ref mpa, .int deeds, .ref mim, .ref mik, .int sd, .ref mbi, .ref mbk, .int ent, .ref mnr, .ref mia, .ref min, .ref mas, .ref mpr, .ref mfa, .ref mme, .ref mse])), (mst, .inl (cI, 76, .inl st))]) (w2 := (wX9_splits_a cI cZ cM cS mo mst mpa mim mik mbi mbk mnr mia min mas mpr mfa mme mse deeds sd ent st nr_1 asd)) E (tX9_bring l D cI cZ cM cS mas mnr 12 12 asd nr p2 (0 : Int32) (12 : Int32) hC2) 5 gX9_splits_X9_bring rfl rfl rfl (by decide +kernel) ⟨Nat.le_of_ble_eq_true rfl, Nat.le_of_ble_eq_true rfl⟩ hK hP hD hS hA [3, 2] [0, 1] [0, 1, 3, 2] (by decide) rfl rfl (by decide) (by decide) rfl (by decide) rfl hl.1 rfl (Nat.le_of_ble_eq_true rfl) dX9_splits_20 ⟨Nat.zero_le _, Nat.zero_le _⟩ (fun H locs hP hD hS => ?_)
  refine W.eq (g2 := F0 m 23 ls []) rfl ?_
  refine lv_iconst (v := (0 : Int32)) (pc := 23) hx hb dX9_splits_23 (by decide) ?_
  refine lv_istore (lv' := [(6, .int (0 : Int32)), (5, .int (0 : Int32)), (4, .int r_1), (0, .ref mo), (1, .ref mas), (2, .int p2), (3, .int p3)]) (pc := 24) hx hb dX9_splits_24 hl (by decide) rfl (fun ls hl => ?_)
  obtain ⟨nr_7, hL8, hF⟩ := ob1_e hF
  have ex8 : ∀ (H : Heap) (locs : List Loc) (ls : Array Slot), va_P D vwCl (wX9_splits_a cI cZ cM cS mo mst mpa mim mik mbi mbk mnr mia min mas mpr mfa mme mse deeds sd ent st nr_7 asd) H → va_D A (wX9_splits_a cI cZ cM cS mo mst mpa mim mik mbi mbk mnr mia min mas mpr mfa mme mse deeds sd ent st nr_7 asd) → va_S A s.heap H locs → lv_has ls 9 [(0, .ref mo), (1, .ref mas), (2, .int p2)] → W p l e (zRm 2 46) s m args below meth c H locs 0 0 Q (F0 m 107 ls []) := by
    intro H locs ls hP hD hS hl
    refine lv_aload_n (pc := 107) hx hb dX9_splits_107 rfl (lv_at hl 0 rfl) ?_
    refine va_get (pc := 108) (ci := 9) (C := RX9) (T := TX9) (N := 17) hx hb hts inX9 hown hK hP 0 rfl rfl 9 (by decide) fl29 (fun _ h9 => h9) rfl dX9_splits_108 ?_
    refine lv_iconst (v := (0 : Int32)) (pc := 111) hx hb dX9_splits_111 (by decide) ?_
    refine lv_aload_n (pc := 112) hx hb dX9_splits_112 rfl (lv_at hl 1 rfl) ?_
    refine lv_iload_n (pc := 113) hx hb dX9_splits_113 rfl (lv_at hl 2 rfl) ?_
    refine lv_bipush (v := (12 : Int32)) (pc := 114) hx hb dX9_splits_114 (by decide) ?_
    obtain ⟨asd_2, hC15, hF⟩ := ob1_e hF
    refine zS (pc := 116) (As := [.ref mnr, .int (0 : Int32), .ref mas, .int p2, .int (12 : Int32)]) (rest := []) (wr := [(mo, .inr (9, [.ref mst, .ref mpa, .int deeds, .ref mim, .ref mik, .int sd, .ref mbi, .ref mbk, .int ent, .ref mnr, .ref mia, .ref min, .ref mas, .ref mpr, .ref mfa, .ref mme, .ref mse])), (mst, .inl (cI, 76, .inl st))]) (w2 := (wX9_splits_a cI cZ cM cS mo mst mpa mim mik mbi mbk mnr mia min mas mpr mfa mme mse deeds sd ent st nr_7 asd_2)) E (tX9_bring l D cI cZ cM cS mnr mas 12 12 nr_7 asd (0 : Int32) p2 (12 : Int32) hC15) 5 gX9_splits_X9_bring rfl rfl rfl (by decide +kernel) ⟨Nat.le_of_ble_eq_true rfl, Nat.le_of_ble_eq_true rfl⟩ hK hP hD hS hA [2, 3] [0, 1] [0, 1, 2, 3] (by decide) rfl rfl (by decide) (by decide) rfl (by decide) rfl hl.1 rfl (Nat.le_of_ble_eq_true rfl) dX9_splits_116 ⟨Nat.zero_le _, Nat.zero_le _⟩ (fun H locs hP hD hS => ?_)
    refine W.eq (g2 := F0 m 119 ls []) rfl ?_
    cases hF
    exact hRet _ _ _ _ dX9_splits_119 hP hD hS
  have lp8 : ∀ (n : Nat) (x6_2 : Int32) (x5_3 : Int32) (nr_6 : (Nat → Int32)) (H : Heap) (locs : List Loc) (ls : Array Slot), olp (fX9_splits_a_s26 r_1 p2 deeds sd ent st asd p3) n (x6_2, x5_3, nr_6) = some nr_7 → va_P D vwCl (wX9_splits_a cI cZ cM cS mo mst mpa mim mik mbi mbk mnr mia min mas mpr mfa mme mse deeds sd ent st nr_6 asd) H → va_D A (wX9_splits_a cI cZ cM cS mo mst mpa mim mik mbi mbk mnr mia min mas mpr mfa mme mse deeds sd ent st nr_6 asd) → va_S A s.heap H locs → lv_has ls 9 [(6, .int x6_2), (5, .int x5_3), (4, .int r_1), (0, .ref mo), (1, .ref mas), (2, .int p2), (3, .int p3)] → W p l e (zRm 2 46) s m args below meth c H locs 0 0 Q (F0 m 26 ls []) := by
    intro n
    induction n with
    | zero => intro x6_2 x5_3 nr_6 H locs ls hL; exact olp_0 hL
    | succ n ih =>
      intro x6_2 x5_3 nr_6 H locs ls hL8 hP hD hS hl
      obtain ⟨z, hz8, hL8⟩ := olp_e hL8
      have hz8 : fX9_splits_a_b26 r_1 p2 deeds sd ent st asd p3 x6_2 x5_3 nr_6 = some z := hz8
      unfold fX9_splits_a_b26 at hz8
      refine lv_iload (pc := 26) hx hb dX9_splits_26 (lv_at hl 0 rfl) ?_
      refine lv_iload (pc := 28) hx hb dX9_splits_28 (lv_at hl 2 rfl) ?_
      refine lv_icmp_ge (pc := 30) (tgt := 107) hx hb dX9_splits_30 (by decide) (fun hc => ?_) (fun hc => ?_)
      · have hz8 := oif_t hz8 hc
        have hE := olp_r hz8 hL8
        cases hE
        exact ex8 _ _ _ hP hD hS (lv_sub hl [3, 4, 5] rfl)
      · have hz8 := oif_f hz8 hc
        refine lv_aload_n (pc := 33) hx hb dX9_splits_33 rfl (lv_at hl 3 rfl) ?_
        refine lv_aload_n (pc := 34) hx hb dX9_splits_34 rfl (lv_at hl 4 rfl) ?_
        refine lv_iload_n (pc := 35) hx hb dX9_splits_35 rfl (lv_at hl 5 rfl) ?_
        refine lv_iload (pc := 36) hx hb dX9_splits_36 (lv_at hl 0 rfl) ?_
        obtain ⟨r_4, hC9, hz8⟩ := ob1_e hz8
        refine zVr (pc := 38) (As := [.ref mas, .int p2, .int x6_2]) (rest := []) E (tX9_membersOf_a l D cI cZ cM cS mo mst mpa mim mik mbi mbk mnr mia min mas mpr mfa mme mse deeds sd ent st asd p2 x6_2 hC9) 3 gX9_splits_X9_membersOf rfl rfl rfl (by decide +kernel) ⟨Nat.le_of_ble_eq_true rfl, Nat.le_of_ble_eq_true rfl⟩ hK hP [0, 1, 3] rfl 0 9 rfl rfl rfl rfl hl.1 rfl (Nat.le_of_ble_eq_true rfl) dX9_splits_38 ⟨Nat.zero_le _, Nat.zero_le _⟩ ?_
        refine lv_iload_n (pc := 41) hx hb dX9_splits_41 rfl (lv_at hl 6 rfl) ?_
        refine lv_iand (pc := 42) hx hb dX9_splits_42 ?_
        refine lv_istore (lv' := [(7, .int (r_4 &&& p3)), (6, .int x6_2), (5, .int x5_3), (4, .int r_1), (0, .ref mo), (1, .ref mas), (2, .int p2), (3, .int p3)]) (pc := 43) hx hb dX9_splits_43 hl (by decide) rfl (fun ls hl => ?_)
        refine lv_aload_n (pc := 45) hx hb dX9_splits_45 rfl (lv_at hl 4 rfl) ?_
        refine lv_aload_n (pc := 46) hx hb dX9_splits_46 rfl (lv_at hl 5 rfl) ?_
        refine lv_iload_n (pc := 47) hx hb dX9_splits_47 rfl (lv_at hl 6 rfl) ?_
        refine lv_iload (pc := 48) hx hb dX9_splits_48 (lv_at hl 1 rfl) ?_
        obtain ⟨r_5, hC10, hz8⟩ := ob1_e hz8
        refine zVr (pc := 50) (As := [.ref mas, .int p2, .int x6_2]) (rest := []) E (tX9_membersOf_a l D cI cZ cM cS mo mst mpa mim mik mbi mbk mnr mia min mas mpr mfa mme mse deeds sd ent st asd p2 x6_2 hC10) 3 gX9_splits_X9_membersOf rfl rfl rfl (by decide +kernel) ⟨Nat.le_of_ble_eq_true rfl, Nat.le_of_ble_eq_true rfl⟩ hK hP [0, 1, 3] rfl 0 9 rfl rfl rfl rfl hl.1 rfl (Nat.le_of_ble_eq_true rfl) dX9_splits_50 ⟨Nat.zero_le _, Nat.zero_le _⟩ ?_
        refine lv_iload_n (pc := 53) hx hb dX9_splits_53 rfl (lv_at hl 7 rfl) ?_
        refine lv_iconst (v := (-1 : Int32)) (pc := 54) hx hb dX9_splits_54 (by decide) ?_
        refine lv_ixor (pc := 55) hx hb dX9_splits_55 ?_
        refine lv_iand (pc := 56) hx hb dX9_splits_56 ?_
        refine lv_istore (lv' := [(8, .int (r_5 &&& (p3 ^^^ (-1 : Int32)))), (7, .int (r_4 &&& p3)), (6, .int x6_2), (5, .int x5_3), (4, .int r_1), (0, .ref mo), (1, .ref mas), (2, .int p2), (3, .int p3)]) (pc := 57) hx hb dX9_splits_57 hl (by decide) rfl (fun ls hl => ?_)
        refine lv_iload (pc := 59) hx hb dX9_splits_59 (lv_at hl 1 rfl) ?_
        obtain ⟨x5_4, nr_9, hM12, hz8⟩ := ob2_e hz8
        have jn12 : ∀ (H : Heap) (locs : List Loc) (ls : Array Slot), va_P D vwCl (wX9_splits_a cI cZ cM cS mo mst mpa mim mik mbi mbk mnr mia min mas mpr mfa mme mse deeds sd ent st nr_9 asd) H → va_D A (wX9_splits_a cI cZ cM cS mo mst mpa mim mik mbi mbk mnr mia min mas mpr mfa mme mse deeds sd ent st nr_9 asd) → va_S A s.heap H locs → lv_has ls 9 [(8, .int (r_5 &&& (p3 ^^^ (-1 : Int32)))), (6, .int x6_2), (5, .int x5_4), (4, .int r_1), (0, .ref mo), (1, .ref mas), (2, .int p2), (3, .int p3)] → W p l e (zRm 2 46) s m args below meth c H locs 0 0 Q (F0 m 80 ls []) := by
          intro H locs ls hP hD hS hl
          refine lv_iload (pc := 80) hx hb dX9_splits_80 (lv_at hl 0 rfl) ?_
          refine lv_if_eq (pc := 82) (tgt := 101) hx hb dX9_splits_82 (by decide) (fun hc => ?_) (fun hc => ?_)
          · have hz8 := oif_t hz8 hc
            refine lv_iinc (v := (x6_2 + (1 : Int32))) (lv' := [(6, .int (x6_2 + (1 : Int32))), (8, .int (r_5 &&& (p3 ^^^ (-1 : Int32)))), (5, .int x5_4), (4, .int r_1), (0, .ref mo), (1, .ref mas), (2, .int p2), (3, .int p3)]) (pc := 101) hx hb dX9_splits_101 hl (k := 1) rfl rfl (by decide) rfl (fun ls hl => ?_)
            refine lv_goto (pc := 104) (tgt := 26) hx hb dX9_splits_104 (by decide) ?_
            exact ih _ _ _ _ _ _ (olp_l hz8 hL8) hP hD hS (lv_sub hl [0, 2, 3, 4, 5, 6, 7] rfl)
          · have hz8 := oif_f hz8 hc
            refine lv_aload_n (pc := 85) hx hb dX9_splits_85 rfl (lv_at hl 4 rfl) ?_
            refine lv_aload_n (pc := 86) hx hb dX9_splits_86 rfl (lv_at hl 4 rfl) ?_
            refine va_get (pc := 87) (ci := 9) (C := RX9) (T := TX9) (N := 17) hx hb hts inX9 hown hK hP 0 rfl rfl 9 (by decide) fl29 (fun _ h9 => h9) rfl dX9_splits_87 ?_
            refine lv_iconst (v := (0 : Int32)) (pc := 90) hx hb dX9_splits_90 (by decide) ?_
            refine lv_iload (pc := 91) hx hb dX9_splits_91 (lv_at hl 0 rfl) ?_
            refine lv_iload (pc := 93) hx hb dX9_splits_93 (lv_at hl 2 rfl) ?_
            obtain ⟨nr_10, hC13, hz8⟩ := ob1_e hz8
            refine zV (pc := 95) (As := [.ref mnr, .int (0 : Int32), .int (r_5 &&& (p3 ^^^ (-1 : Int32))), .int x5_4]) (rest := []) (wr := [(mas, .inl (cI, 12, .inl asd))]) (w2 := (wX9_splits_a cI cZ cM cS mo mst mpa mim mik mbi mbk mnr mia min mas mpr mfa mme mse deeds sd ent st nr_10 asd)) E (tX9_gives l D cI cZ cM cS mo mst mpa mim mik mbi mbk mnr mia min mas mpr mfa mme mse deeds sd ent st nr_9 (0 : Int32) (r_5 &&& (p3 ^^^ (-1 : Int32))) x5_4 hC13) 4 gX9_splits_X9_gives rfl rfl rfl (by decide +kernel) ⟨Nat.le_of_ble_eq_true rfl, Nat.le_of_ble_eq_true rfl⟩ hK hP hD hS hA [0, 1, 2] [3] [1, 2, 3, 0] (by decide) rfl rfl (by decide) (by decide) rfl (by decide) 0 9 rfl rfl rfl rfl hl.1 rfl (Nat.le_of_ble_eq_true rfl) dX9_splits_95 ⟨Nat.zero_le _, Nat.zero_le _⟩ (fun H locs hP hD hS => ?_)
            refine W.eq (g2 := F0 m 98 ls []) rfl ?_
            refine lv_iinc (v := (x5_4 + (1 : Int32))) (lv' := [(5, .int (x5_4 + (1 : Int32))), (8, .int (r_5 &&& (p3 ^^^ (-1 : Int32)))), (6, .int x6_2), (4, .int r_1), (0, .ref mo), (1, .ref mas), (2, .int p2), (3, .int p3)]) (pc := 98) hx hb dX9_splits_98 hl (k := 2) rfl rfl (by decide) rfl (fun ls hl => ?_)
            refine lv_iinc (v := (x6_2 + (1 : Int32))) (lv' := [(6, .int (x6_2 + (1 : Int32))), (5, .int (x5_4 + (1 : Int32))), (8, .int (r_5 &&& (p3 ^^^ (-1 : Int32)))), (4, .int r_1), (0, .ref mo), (1, .ref mas), (2, .int p2), (3, .int p3)]) (pc := 101) hx hb dX9_splits_101 hl (k := 2) rfl rfl (by decide) rfl (fun ls hl => ?_)
            refine lv_goto (pc := 104) (tgt := 26) hx hb dX9_splits_104 (by decide) ?_
            exact ih _ _ _ _ _ _ (olp_l hz8 hL8) hP hD hS (lv_sub hl [0, 1, 3, 4, 5, 6, 7] rfl)
        refine lv_if_eq (pc := 61) (tgt := 80) hx hb dX9_splits_61 (by decide) (fun hc => ?_) (fun hc => ?_)
        · have hM12 := oif_t hM12 hc
          cases hM12
          exact jn12 _ _ _ hP hD hS (lv_sub hl [0, 2, 3, 4, 5, 6, 7, 8] rfl)
        · have hM12 := oif_f hM12 hc
          refine lv_aload_n (pc := 64) hx hb dX9_splits_64 rfl (lv_at hl 5 rfl) ?_
          refine lv_aload_n (pc := 65) hx hb dX9_splits_65 rfl (lv_at hl 5 rfl) ?_
          refine va_get (pc := 66) (ci := 9) (C := RX9) (T := TX9) (N := 17) hx hb hts inX9 hown hK hP 0 rfl rfl 9 (by decide) fl29 (fun _ h9 => h9) rfl dX9_splits_66 ?_
          refine lv_iconst (v := (0 : Int32)) (pc := 69) hx hb dX9_splits_69 (by decide) ?_
          refine lv_iload (pc := 70) hx hb dX9_splits_70 (lv_at hl 1 rfl) ?_
          refine lv_iload (pc := 72) hx hb dX9_splits_72 (lv_at hl 3 rfl) ?_
          obtain ⟨nr_11, hC14, hM12⟩ := ob1_e hM12
          refine zV (pc := 74) (As := [.ref mnr, .int (0 : Int32), .int (r_4 &&& p3), .int x5_3]) (rest := []) (wr := [(mas, .inl (cI, 12, .inl asd))]) (w2 := (wX9_splits_a cI cZ cM cS mo mst mpa mim mik mbi mbk mnr mia min mas mpr mfa mme mse deeds sd ent st nr_11 asd)) E (tX9_gives l D cI cZ cM cS mo mst mpa mim mik mbi mbk mnr mia min mas mpr mfa mme mse deeds sd ent st nr_6 (0 : Int32) (r_4 &&& p3) x5_3 hC14) 4 gX9_splits_X9_gives rfl rfl rfl (by decide +kernel) ⟨Nat.le_of_ble_eq_true rfl, Nat.le_of_ble_eq_true rfl⟩ hK hP hD hS hA [0, 1, 2] [3] [1, 2, 3, 0] (by decide) rfl rfl (by decide) (by decide) rfl (by decide) 0 9 rfl rfl rfl rfl hl.1 rfl (Nat.le_of_ble_eq_true rfl) dX9_splits_74 ⟨Nat.zero_le _, Nat.zero_le _⟩ (fun H locs hP hD hS => ?_)
          refine W.eq (g2 := F0 m 77 ls []) rfl ?_
          refine lv_iinc (v := (x5_3 + (1 : Int32))) (lv' := [(5, .int (x5_3 + (1 : Int32))), (8, .int (r_5 &&& (p3 ^^^ (-1 : Int32)))), (7, .int (r_4 &&& p3)), (6, .int x6_2), (4, .int r_1), (0, .ref mo), (1, .ref mas), (2, .int p2), (3, .int p3)]) (pc := 77) hx hb dX9_splits_77 hl (k := 3) rfl rfl (by decide) rfl (fun ls hl => ?_)
          cases hM12
          exact jn12 _ _ _ hP hD hS (lv_sub hl [1, 3, 0, 4, 5, 6, 7, 8] rfl)
  exact lp8 oFu _ _ _ _ _ _ hL8 hP hD hS (lv_sub hl [0, 1, 2, 3, 4, 5, 6] rfl)
def fX9_arranges_b17 (st : (Nat → Int32)) (p2 : Int32) (deeds : Int32) (sd : Int32) (ent : Int32) (x4_2 : Int32) (x3_2 : Int32) (nr_4 : (Nat → Int32)) : Option ((Int32 × Int32 × (Nat → Int32)) ⊕ ((Nat → Int32))) := (if (st 0) ≤ x4_2 then (some (.inr nr_4)) else (ogd (p2 + x4_2) 76 (ob1 (fX9_membersOf p2 (st (Int32.toNatClampNeg (p2 + x4_2))) deeds sd ent st) (fun r_2 => (if (r_2 &&& (((1 : Int32) <<< (x4_2 &&& 31)) - (1 : Int32))) = (0 : Int32) then (ob1 (fX9_gives (0 : Int32) r_2 x3_2 deeds sd ent st nr_4) (fun nr_6 => (some (.inl ((x4_2 + (1 : Int32)), (x3_2 + (1 : Int32)), nr_6))))) else (some (.inl ((x4_2 + (1 : Int32)), x3_2, nr_4))))))))
def fX9_arranges_s17 (st : (Nat → Int32)) (p2 : Int32) (deeds : Int32) (sd : Int32) (ent : Int32) (sg_ : Int32 × Int32 × (Nat → Int32)) : Option ((Int32 × Int32 × (Nat → Int32)) ⊕ ((Nat → Int32))) := fX9_arranges_b17 st p2 deeds sd ent sg_.1 sg_.2.1 sg_.2.2
def fX9_arranges (p2 : Int32) (deeds : Int32) (sd : Int32) (ent : Int32) (st : (Nat → Int32)) (nr : (Nat → Int32)) : Option ((Nat → Int32) × (Nat → Int32)) := (ob1 (fX9_bring 76 12 p2 (0 : Int32) (12 : Int32) st nr) (fun nr_1 => (ob1 (olp (fX9_arranges_s17 st p2 deeds sd ent) oFu ((0 : Int32), (0 : Int32), nr_1)) (fun nr_5 => (ob1 (fX9_bring 12 76 (0 : Int32) p2 (12 : Int32) nr_5 st) (fun st_2 => (some (st_2, nr_5))))))))
abbrev wX9_arranges (cI cZ cM cS : ClassId) (mo mst mpa mim mik mbi mbk mnr mia min mas mpr mfa mme mse : Nat) (deeds : Int32) (sd : Int32) (ent : Int32) (st : (Nat → Int32)) (nr : (Nat → Int32)) : va_W := [(mo, .inr (9, [.ref mst, .ref mpa, .int deeds, .ref mim, .ref mik, .int sd, .ref mbi, .ref mbk, .int ent, .ref mnr, .ref mia, .ref min, .ref mas, .ref mpr, .ref mfa, .ref mme, .ref mse])), (mst, .inl (cI, 76, .inl st)), (mnr, .inl (cI, 12, .inl nr))]
set_option maxHeartbeats 4000000 in
set_option maxRecDepth 100000 in
theorem tX9_arranges (l : Launch) (D : va_G) (cI cZ cM cS : ClassId) (mo mst mpa mim mik mbi mbk mnr mia min mas mpr mfa mme mse : Nat) (deeds : Int32) (sd : Int32) (ent : Int32) (st : (Nat → Int32)) (nr : (Nat → Int32)) (p2 : Int32) {st' : (Nat → Int32)} {nr' : (Nat → Int32)} (hF : fX9_arranges p2 deeds sd ent st nr = some (st', nr')) : zCW l yX9_arranges wsX9_arranges (zRm 2 46) D (zTy cI cZ cM cS) [.ref mo, .ref mst, .int p2] (wX9_arranges cI cZ cM cS mo mst mpa mim mik mbi mbk mnr mia min mas mpr mfa mme mse deeds sd ent st nr) (wX9_arranges cI cZ cM cS mo mst mpa mim mik mbi mbk mnr mia min mas mpr mfa mme mse deeds sd ent st' nr') none := by
  unfold fX9_arranges at hF
  refine zCW_ofv (cc := cX9_arranges) (maxL := 6) (own := RX9) (by decide) rfl rfl (Nat.le_of_ble_eq_true rfl) (fun p e s m args below meth c Q ls A E hA hK hP hD hRet hS hl => ?_)
  refine zgen (fun H locs hP hS => ?_) hP hS
  have hl : lv_has ls 6 [(0, .ref mo), (1, .ref mst), (2, .int p2)] := hl
  obtain ⟨hx, hb, hml, hown, hts⟩ := id E
  have inX9 : ∀ w ∈ u_ws RX9 TX9 17, w ∈ wsX9_arranges := by decide +kernel
  have fl29 := hts (.fieldLink RX9 29 "SplitClassesModel" "newRow" "[I") (by decide +kernel)
  have fl7 := hts (.fieldLink RX9 7 "SplitClassesModel" "st" "[I") (by decide +kernel)
  refine lv_iconst (v := (0 : Int32)) (pc := 0) hx hb dX9_arranges_0 (by decide) ?_
  refine lv_istore_n (lv' := [(3, .int (0 : Int32)), (0, .ref mo), (1, .ref mst), (2, .int p2)]) (pc := 1) hx hb dX9_arranges_1 rfl hl (by decide) rfl (fun ls hl => ?_)
  refine lv_aload_n (pc := 2) hx hb dX9_arranges_2 rfl (lv_at hl 2 rfl) ?_
  refine lv_iload_n (pc := 3) hx hb dX9_arranges_3 rfl (lv_at hl 3 rfl) ?_
  refine lv_aload_n (pc := 4) hx hb dX9_arranges_4 rfl (lv_at hl 1 rfl) ?_
  refine va_get (pc := 5) (ci := 9) (C := RX9) (T := TX9) (N := 17) hx hb hts inX9 hown hK hP 0 rfl rfl 9 (by decide) fl29 (fun _ h9 => h9) rfl dX9_arranges_5 ?_
  refine lv_iconst (v := (0 : Int32)) (pc := 8) hx hb dX9_arranges_8 (by decide) ?_
  refine lv_bipush (v := (12 : Int32)) (pc := 9) hx hb dX9_arranges_9 (by decide) ?_
  obtain ⟨nr_1, hC1, hF⟩ := ob1_e hF
  refine zS (pc := 11) (As := [.ref mst, .int p2, .ref mnr, .int (0 : Int32), .int (12 : Int32)]) (rest := []) (wr := [(mo, .inr (9, [.ref mst, .ref mpa, .int deeds, .ref mim, .ref mik, .int sd, .ref mbi, .ref mbk, .int ent, .ref mnr, .ref mia, .ref min, .ref mas, .ref mpr, .ref mfa, .ref mme, .ref mse]))]) (w2 := (wX9_arranges cI cZ cM cS mo mst mpa mim mik mbi mbk mnr mia min mas mpr mfa mme mse deeds sd ent st nr_1)) E (tX9_bring l D cI cZ cM cS mst mnr 76 12 st nr p2 (0 : Int32) (12 : Int32) hC1) 5 gX9_arranges_X9_bring rfl rfl rfl (by decide +kernel) ⟨Nat.le_of_ble_eq_true rfl, Nat.le_of_ble_eq_true rfl⟩ hK hP hD hS hA [1, 2] [0] [0, 1, 2] (by decide) rfl rfl (by decide) (by decide) rfl (by decide) rfl hl.1 rfl (Nat.le_of_ble_eq_true rfl) dX9_arranges_11 ⟨Nat.zero_le _, Nat.zero_le _⟩ (fun H locs hP hD hS => ?_)
  refine W.eq (g2 := F0 m 14 ls []) rfl ?_
  refine lv_iconst (v := (0 : Int32)) (pc := 14) hx hb dX9_arranges_14 (by decide) ?_
  refine lv_istore (lv' := [(4, .int (0 : Int32)), (3, .int (0 : Int32)), (0, .ref mo), (1, .ref mst), (2, .int p2)]) (pc := 15) hx hb dX9_arranges_15 hl (by decide) rfl (fun ls hl => ?_)
  obtain ⟨nr_5, hL5, hF⟩ := ob1_e hF
  have ex5 : ∀ (H : Heap) (locs : List Loc) (ls : Array Slot), va_P D vwCl (wX9_arranges cI cZ cM cS mo mst mpa mim mik mbi mbk mnr mia min mas mpr mfa mme mse deeds sd ent st nr_5) H → va_D A (wX9_arranges cI cZ cM cS mo mst mpa mim mik mbi mbk mnr mia min mas mpr mfa mme mse deeds sd ent st nr_5) → va_S A s.heap H locs → lv_has ls 6 [(0, .ref mo), (1, .ref mst), (2, .int p2)] → W p l e (zRm 2 46) s m args below meth c H locs 0 0 Q (F0 m 75 ls []) := by
    intro H locs ls hP hD hS hl
    refine lv_aload_n (pc := 75) hx hb dX9_arranges_75 rfl (lv_at hl 0 rfl) ?_
    refine va_get (pc := 76) (ci := 9) (C := RX9) (T := TX9) (N := 17) hx hb hts inX9 hown hK hP 0 rfl rfl 9 (by decide) fl29 (fun _ h9 => h9) rfl dX9_arranges_76 ?_
    refine lv_iconst (v := (0 : Int32)) (pc := 79) hx hb dX9_arranges_79 (by decide) ?_
    refine lv_aload_n (pc := 80) hx hb dX9_arranges_80 rfl (lv_at hl 1 rfl) ?_
    refine lv_iload_n (pc := 81) hx hb dX9_arranges_81 rfl (lv_at hl 2 rfl) ?_
    refine lv_bipush (v := (12 : Int32)) (pc := 82) hx hb dX9_arranges_82 (by decide) ?_
    obtain ⟨st_2, hC9, hF⟩ := ob1_e hF
    refine zS (pc := 84) (As := [.ref mnr, .int (0 : Int32), .ref mst, .int p2, .int (12 : Int32)]) (rest := []) (wr := [(mo, .inr (9, [.ref mst, .ref mpa, .int deeds, .ref mim, .ref mik, .int sd, .ref mbi, .ref mbk, .int ent, .ref mnr, .ref mia, .ref min, .ref mas, .ref mpr, .ref mfa, .ref mme, .ref mse]))]) (w2 := (wX9_arranges cI cZ cM cS mo mst mpa mim mik mbi mbk mnr mia min mas mpr mfa mme mse deeds sd ent st_2 nr_5)) E (tX9_bring l D cI cZ cM cS mnr mst 12 76 nr_5 st (0 : Int32) p2 (12 : Int32) hC9) 5 gX9_arranges_X9_bring rfl rfl rfl (by decide +kernel) ⟨Nat.le_of_ble_eq_true rfl, Nat.le_of_ble_eq_true rfl⟩ hK hP hD hS hA [2, 1] [0] [0, 2, 1] (by decide) rfl rfl (by decide) (by decide) rfl (by decide) rfl hl.1 rfl (Nat.le_of_ble_eq_true rfl) dX9_arranges_84 ⟨Nat.zero_le _, Nat.zero_le _⟩ (fun H locs hP hD hS => ?_)
    refine W.eq (g2 := F0 m 87 ls []) rfl ?_
    cases hF
    exact hRet _ _ _ _ dX9_arranges_87 hP hD hS
  have lp5 : ∀ (n : Nat) (x4_2 : Int32) (x3_2 : Int32) (nr_4 : (Nat → Int32)) (H : Heap) (locs : List Loc) (ls : Array Slot), olp (fX9_arranges_s17 st p2 deeds sd ent) n (x4_2, x3_2, nr_4) = some nr_5 → va_P D vwCl (wX9_arranges cI cZ cM cS mo mst mpa mim mik mbi mbk mnr mia min mas mpr mfa mme mse deeds sd ent st nr_4) H → va_D A (wX9_arranges cI cZ cM cS mo mst mpa mim mik mbi mbk mnr mia min mas mpr mfa mme mse deeds sd ent st nr_4) → va_S A s.heap H locs → lv_has ls 6 [(4, .int x4_2), (3, .int x3_2), (0, .ref mo), (1, .ref mst), (2, .int p2)] → W p l e (zRm 2 46) s m args below meth c H locs 0 0 Q (F0 m 17 ls []) := by
    intro n
    induction n with
    | zero => intro x4_2 x3_2 nr_4 H locs ls hL; exact olp_0 hL
    | succ n ih =>
      intro x4_2 x3_2 nr_4 H locs ls hL5 hP hD hS hl
      obtain ⟨z, hz5, hL5⟩ := olp_e hL5
      have hz5 : fX9_arranges_b17 st p2 deeds sd ent x4_2 x3_2 nr_4 = some z := hz5
      unfold fX9_arranges_b17 at hz5
      refine lv_iload (pc := 17) hx hb dX9_arranges_17 (lv_at hl 0 rfl) ?_
      refine lv_aload_n (pc := 19) hx hb dX9_arranges_19 rfl (lv_at hl 2 rfl) ?_
      refine va_get (pc := 20) (ci := 9) (C := RX9) (T := TX9) (N := 17) hx hb hts inX9 hown hK hP 0 rfl rfl 0 (by decide) fl7 (fun _ h9 => h9) rfl dX9_arranges_20 ?_
      refine lv_iconst (v := (0 : Int32)) (pc := 23) hx hb dX9_arranges_23 (by decide) ?_
      refine z_iald (pc := 24) (k := 0) hx hb hK hP 1 0 rfl rfl (by decide) (by decide) dX9_arranges_24 ?_
      refine lv_icmp_ge (pc := 25) (tgt := 75) hx hb dX9_arranges_25 (by decide) (fun hc => ?_) (fun hc => ?_)
      · have hz5 := oif_t hz5 hc
        have hE := olp_r hz5 hL5
        cases hE
        exact ex5 _ _ _ hP hD hS (lv_sub hl [2, 3, 4] rfl)
      · have hz5 := oif_f hz5 hc
        refine lv_aload_n (pc := 28) hx hb dX9_arranges_28 rfl (lv_at hl 2 rfl) ?_
        refine lv_aload_n (pc := 29) hx hb dX9_arranges_29 rfl (lv_at hl 3 rfl) ?_
        refine lv_iload_n (pc := 30) hx hb dX9_arranges_30 rfl (lv_at hl 4 rfl) ?_
        refine lv_aload_n (pc := 31) hx hb dX9_arranges_31 rfl (lv_at hl 3 rfl) ?_
        refine lv_iload_n (pc := 32) hx hb dX9_arranges_32 rfl (lv_at hl 4 rfl) ?_
        refine lv_iload (pc := 33) hx hb dX9_arranges_33 (lv_at hl 0 rfl) ?_
        refine lv_iadd (pc := 35) hx hb dX9_arranges_35 ?_
        obtain ⟨hg6, hz5⟩ := ogd_e hz5
        refine va_iald (pc := 36) hx hb hK hP 1 0 rfl rfl hg6 dX9_arranges_36 ?_
        obtain ⟨r_2, hC7, hz5⟩ := ob1_e hz5
        refine zVr (pc := 37) (As := [.ref mst, .int p2, .int (st (Int32.toNatClampNeg (p2 + x4_2)))]) (rest := []) E (tX9_membersOf l D cI cZ cM cS mo mst mpa mim mik mbi mbk mnr mia min mas mpr mfa mme mse deeds sd ent st p2 (st (Int32.toNatClampNeg (p2 + x4_2))) hC7) 3 gX9_arranges_X9_membersOf rfl rfl rfl (by decide +kernel) ⟨Nat.le_of_ble_eq_true rfl, Nat.le_of_ble_eq_true rfl⟩ hK hP [0, 1] rfl 0 9 rfl rfl rfl rfl hl.1 rfl (Nat.le_of_ble_eq_true rfl) dX9_arranges_37 ⟨Nat.zero_le _, Nat.zero_le _⟩ ?_
        refine lv_istore (lv' := [(5, .int r_2), (4, .int x4_2), (3, .int x3_2), (0, .ref mo), (1, .ref mst), (2, .int p2)]) (pc := 40) hx hb dX9_arranges_40 hl (by decide) rfl (fun ls hl => ?_)
        refine lv_iload (pc := 42) hx hb dX9_arranges_42 (lv_at hl 0 rfl) ?_
        refine lv_iconst (v := (1 : Int32)) (pc := 44) hx hb dX9_arranges_44 (by decide) ?_
        refine lv_iload (pc := 45) hx hb dX9_arranges_45 (lv_at hl 1 rfl) ?_
        refine lv_ishl (pc := 47) hx hb dX9_arranges_47 ?_
        refine lv_iconst (v := (1 : Int32)) (pc := 48) hx hb dX9_arranges_48 (by decide) ?_
        refine lv_isub (pc := 49) hx hb dX9_arranges_49 ?_
        refine lv_iand (pc := 50) hx hb dX9_arranges_50 ?_
        refine lv_if_ne (pc := 51) (tgt := 69) hx hb dX9_arranges_51 (by decide) (fun hc => ?_) (fun hc => ?_)
        · have hz5 := oif_f hz5 hc
          refine lv_iinc (v := (x4_2 + (1 : Int32))) (lv' := [(4, .int (x4_2 + (1 : Int32))), (5, .int r_2), (3, .int x3_2), (0, .ref mo), (1, .ref mst), (2, .int p2)]) (pc := 69) hx hb dX9_arranges_69 hl (k := 1) rfl rfl (by decide) rfl (fun ls hl => ?_)
          refine lv_goto (pc := 72) (tgt := 17) hx hb dX9_arranges_72 (by decide) ?_
          exact ih _ _ _ _ _ _ (olp_l hz5 hL5) hP hD hS (lv_sub hl [0, 2, 3, 4, 5] rfl)
        · have hz5 := oif_t hz5 hc
          refine lv_aload_n (pc := 54) hx hb dX9_arranges_54 rfl (lv_at hl 3 rfl) ?_
          refine lv_aload_n (pc := 55) hx hb dX9_arranges_55 rfl (lv_at hl 3 rfl) ?_
          refine va_get (pc := 56) (ci := 9) (C := RX9) (T := TX9) (N := 17) hx hb hts inX9 hown hK hP 0 rfl rfl 9 (by decide) fl29 (fun _ h9 => h9) rfl dX9_arranges_56 ?_
          refine lv_iconst (v := (0 : Int32)) (pc := 59) hx hb dX9_arranges_59 (by decide) ?_
          refine lv_iload (pc := 60) hx hb dX9_arranges_60 (lv_at hl 0 rfl) ?_
          refine lv_iload_n (pc := 62) hx hb dX9_arranges_62 rfl (lv_at hl 2 rfl) ?_
          obtain ⟨nr_6, hC8, hz5⟩ := ob1_e hz5
          refine zV (pc := 63) (As := [.ref mnr, .int (0 : Int32), .int r_2, .int x3_2]) (rest := []) (wr := []) (w2 := (wX9_arranges cI cZ cM cS mo mst mpa mim mik mbi mbk mnr mia min mas mpr mfa mme mse deeds sd ent st nr_6)) E (tX9_gives l D cI cZ cM cS mo mst mpa mim mik mbi mbk mnr mia min mas mpr mfa mme mse deeds sd ent st nr_4 (0 : Int32) r_2 x3_2 hC8) 4 gX9_arranges_X9_gives rfl rfl rfl (by decide +kernel) ⟨Nat.le_of_ble_eq_true rfl, Nat.le_of_ble_eq_true rfl⟩ hK hP hD hS hA [0, 1, 2] [] [0, 1, 2] (by decide) rfl rfl (by decide) (by decide) rfl (by decide) 0 9 rfl rfl rfl rfl hl.1 rfl (Nat.le_of_ble_eq_true rfl) dX9_arranges_63 ⟨Nat.zero_le _, Nat.zero_le _⟩ (fun H locs hP hD hS => ?_)
          refine W.eq (g2 := F0 m 66 ls []) rfl ?_
          refine lv_iinc (v := (x3_2 + (1 : Int32))) (lv' := [(3, .int (x3_2 + (1 : Int32))), (5, .int r_2), (4, .int x4_2), (0, .ref mo), (1, .ref mst), (2, .int p2)]) (pc := 66) hx hb dX9_arranges_66 hl (k := 2) rfl rfl (by decide) rfl (fun ls hl => ?_)
          refine lv_iinc (v := (x4_2 + (1 : Int32))) (lv' := [(4, .int (x4_2 + (1 : Int32))), (3, .int (x3_2 + (1 : Int32))), (5, .int r_2), (0, .ref mo), (1, .ref mst), (2, .int p2)]) (pc := 69) hx hb dX9_arranges_69 hl (k := 2) rfl rfl (by decide) rfl (fun ls hl => ?_)
          refine lv_goto (pc := 72) (tgt := 17) hx hb dX9_arranges_72 (by decide) ?_
          exact ih _ _ _ _ _ _ (olp_l hz5 hL5) hP hD hS (lv_sub hl [0, 1, 3, 4, 5] rfl)
  exact lp5 oFu _ _ _ _ _ _ hL5 hP hD hS (lv_sub hl [0, 1, 2, 3, 4] rfl)
def fX9_arranges_a_b17 (st : (Nat → Int32)) (p2 : Int32) (asd : (Nat → Int32)) (deeds : Int32) (sd : Int32) (ent : Int32) (x4_2 : Int32) (x3_2 : Int32) (nr_4 : (Nat → Int32)) : Option ((Int32 × Int32 × (Nat → Int32)) ⊕ ((Nat → Int32))) := (if (st 0) ≤ x4_2 then (some (.inr nr_4)) else (ogd (p2 + x4_2) 12 (ob1 (fX9_membersOf_a p2 (asd (Int32.toNatClampNeg (p2 + x4_2))) deeds sd ent st asd) (fun r_2 => (if (r_2 &&& (((1 : Int32) <<< (x4_2 &&& 31)) - (1 : Int32))) = (0 : Int32) then (ob1 (fX9_gives (0 : Int32) r_2 x3_2 deeds sd ent st nr_4) (fun nr_6 => (some (.inl ((x4_2 + (1 : Int32)), (x3_2 + (1 : Int32)), nr_6))))) else (some (.inl ((x4_2 + (1 : Int32)), x3_2, nr_4))))))))
def fX9_arranges_a_s17 (st : (Nat → Int32)) (p2 : Int32) (asd : (Nat → Int32)) (deeds : Int32) (sd : Int32) (ent : Int32) (sg_ : Int32 × Int32 × (Nat → Int32)) : Option ((Int32 × Int32 × (Nat → Int32)) ⊕ ((Nat → Int32))) := fX9_arranges_a_b17 st p2 asd deeds sd ent sg_.1 sg_.2.1 sg_.2.2
def fX9_arranges_a (p2 : Int32) (deeds : Int32) (sd : Int32) (ent : Int32) (st : (Nat → Int32)) (nr : (Nat → Int32)) (asd : (Nat → Int32)) : Option ((Nat → Int32) × (Nat → Int32)) := (ob1 (fX9_bring 12 12 p2 (0 : Int32) (12 : Int32) asd nr) (fun nr_1 => (ob1 (olp (fX9_arranges_a_s17 st p2 asd deeds sd ent) oFu ((0 : Int32), (0 : Int32), nr_1)) (fun nr_5 => (ob1 (fX9_bring 12 12 (0 : Int32) p2 (12 : Int32) nr_5 asd) (fun asd_2 => (some (nr_5, asd_2))))))))
abbrev wX9_arranges_a (cI cZ cM cS : ClassId) (mo mst mpa mim mik mbi mbk mnr mia min mas mpr mfa mme mse : Nat) (deeds : Int32) (sd : Int32) (ent : Int32) (st : (Nat → Int32)) (nr : (Nat → Int32)) (asd : (Nat → Int32)) : va_W := [(mo, .inr (9, [.ref mst, .ref mpa, .int deeds, .ref mim, .ref mik, .int sd, .ref mbi, .ref mbk, .int ent, .ref mnr, .ref mia, .ref min, .ref mas, .ref mpr, .ref mfa, .ref mme, .ref mse])), (mst, .inl (cI, 76, .inl st)), (mnr, .inl (cI, 12, .inl nr)), (mas, .inl (cI, 12, .inl asd))]
set_option maxHeartbeats 4000000 in
set_option maxRecDepth 100000 in
theorem tX9_arranges_a (l : Launch) (D : va_G) (cI cZ cM cS : ClassId) (mo mst mpa mim mik mbi mbk mnr mia min mas mpr mfa mme mse : Nat) (deeds : Int32) (sd : Int32) (ent : Int32) (st : (Nat → Int32)) (nr : (Nat → Int32)) (asd : (Nat → Int32)) (p2 : Int32) {nr' : (Nat → Int32)} {asd' : (Nat → Int32)} (hF : fX9_arranges_a p2 deeds sd ent st nr asd = some (nr', asd')) : zCW l yX9_arranges wsX9_arranges (zRm 2 46) D (zTy cI cZ cM cS) [.ref mo, .ref mas, .int p2] (wX9_arranges_a cI cZ cM cS mo mst mpa mim mik mbi mbk mnr mia min mas mpr mfa mme mse deeds sd ent st nr asd) (wX9_arranges_a cI cZ cM cS mo mst mpa mim mik mbi mbk mnr mia min mas mpr mfa mme mse deeds sd ent st nr' asd') none := by
  unfold fX9_arranges_a at hF
  refine zCW_ofv (cc := cX9_arranges) (maxL := 6) (own := RX9) (by decide) rfl rfl (Nat.le_of_ble_eq_true rfl) (fun p e s m args below meth c Q ls A E hA hK hP hD hRet hS hl => ?_)
  refine zgen (fun H locs hP hS => ?_) hP hS
  have hl : lv_has ls 6 [(0, .ref mo), (1, .ref mas), (2, .int p2)] := hl
  obtain ⟨hx, hb, hml, hown, hts⟩ := id E
  have inX9 : ∀ w ∈ u_ws RX9 TX9 17, w ∈ wsX9_arranges := by decide +kernel
  have fl29 := hts (.fieldLink RX9 29 "SplitClassesModel" "newRow" "[I") (by decide +kernel)
  have fl7 := hts (.fieldLink RX9 7 "SplitClassesModel" "st" "[I") (by decide +kernel)
  refine lv_iconst (v := (0 : Int32)) (pc := 0) hx hb dX9_arranges_0 (by decide) ?_
  refine lv_istore_n (lv' := [(3, .int (0 : Int32)), (0, .ref mo), (1, .ref mas), (2, .int p2)]) (pc := 1) hx hb dX9_arranges_1 rfl hl (by decide) rfl (fun ls hl => ?_)
  refine lv_aload_n (pc := 2) hx hb dX9_arranges_2 rfl (lv_at hl 2 rfl) ?_
  refine lv_iload_n (pc := 3) hx hb dX9_arranges_3 rfl (lv_at hl 3 rfl) ?_
  refine lv_aload_n (pc := 4) hx hb dX9_arranges_4 rfl (lv_at hl 1 rfl) ?_
  refine va_get (pc := 5) (ci := 9) (C := RX9) (T := TX9) (N := 17) hx hb hts inX9 hown hK hP 0 rfl rfl 9 (by decide) fl29 (fun _ h9 => h9) rfl dX9_arranges_5 ?_
  refine lv_iconst (v := (0 : Int32)) (pc := 8) hx hb dX9_arranges_8 (by decide) ?_
  refine lv_bipush (v := (12 : Int32)) (pc := 9) hx hb dX9_arranges_9 (by decide) ?_
  obtain ⟨nr_1, hC1, hF⟩ := ob1_e hF
  refine zS (pc := 11) (As := [.ref mas, .int p2, .ref mnr, .int (0 : Int32), .int (12 : Int32)]) (rest := []) (wr := [(mo, .inr (9, [.ref mst, .ref mpa, .int deeds, .ref mim, .ref mik, .int sd, .ref mbi, .ref mbk, .int ent, .ref mnr, .ref mia, .ref min, .ref mas, .ref mpr, .ref mfa, .ref mme, .ref mse])), (mst, .inl (cI, 76, .inl st))]) (w2 := (wX9_arranges_a cI cZ cM cS mo mst mpa mim mik mbi mbk mnr mia min mas mpr mfa mme mse deeds sd ent st nr_1 asd)) E (tX9_bring l D cI cZ cM cS mas mnr 12 12 asd nr p2 (0 : Int32) (12 : Int32) hC1) 5 gX9_arranges_X9_bring rfl rfl rfl (by decide +kernel) ⟨Nat.le_of_ble_eq_true rfl, Nat.le_of_ble_eq_true rfl⟩ hK hP hD hS hA [3, 2] [0, 1] [0, 1, 3, 2] (by decide) rfl rfl (by decide) (by decide) rfl (by decide) rfl hl.1 rfl (Nat.le_of_ble_eq_true rfl) dX9_arranges_11 ⟨Nat.zero_le _, Nat.zero_le _⟩ (fun H locs hP hD hS => ?_)
  refine W.eq (g2 := F0 m 14 ls []) rfl ?_
  refine lv_iconst (v := (0 : Int32)) (pc := 14) hx hb dX9_arranges_14 (by decide) ?_
  refine lv_istore (lv' := [(4, .int (0 : Int32)), (3, .int (0 : Int32)), (0, .ref mo), (1, .ref mas), (2, .int p2)]) (pc := 15) hx hb dX9_arranges_15 hl (by decide) rfl (fun ls hl => ?_)
  obtain ⟨nr_5, hL5, hF⟩ := ob1_e hF
  have ex5 : ∀ (H : Heap) (locs : List Loc) (ls : Array Slot), va_P D vwCl (wX9_arranges_a cI cZ cM cS mo mst mpa mim mik mbi mbk mnr mia min mas mpr mfa mme mse deeds sd ent st nr_5 asd) H → va_D A (wX9_arranges_a cI cZ cM cS mo mst mpa mim mik mbi mbk mnr mia min mas mpr mfa mme mse deeds sd ent st nr_5 asd) → va_S A s.heap H locs → lv_has ls 6 [(0, .ref mo), (1, .ref mas), (2, .int p2)] → W p l e (zRm 2 46) s m args below meth c H locs 0 0 Q (F0 m 75 ls []) := by
    intro H locs ls hP hD hS hl
    refine lv_aload_n (pc := 75) hx hb dX9_arranges_75 rfl (lv_at hl 0 rfl) ?_
    refine va_get (pc := 76) (ci := 9) (C := RX9) (T := TX9) (N := 17) hx hb hts inX9 hown hK hP 0 rfl rfl 9 (by decide) fl29 (fun _ h9 => h9) rfl dX9_arranges_76 ?_
    refine lv_iconst (v := (0 : Int32)) (pc := 79) hx hb dX9_arranges_79 (by decide) ?_
    refine lv_aload_n (pc := 80) hx hb dX9_arranges_80 rfl (lv_at hl 1 rfl) ?_
    refine lv_iload_n (pc := 81) hx hb dX9_arranges_81 rfl (lv_at hl 2 rfl) ?_
    refine lv_bipush (v := (12 : Int32)) (pc := 82) hx hb dX9_arranges_82 (by decide) ?_
    obtain ⟨asd_2, hC9, hF⟩ := ob1_e hF
    refine zS (pc := 84) (As := [.ref mnr, .int (0 : Int32), .ref mas, .int p2, .int (12 : Int32)]) (rest := []) (wr := [(mo, .inr (9, [.ref mst, .ref mpa, .int deeds, .ref mim, .ref mik, .int sd, .ref mbi, .ref mbk, .int ent, .ref mnr, .ref mia, .ref min, .ref mas, .ref mpr, .ref mfa, .ref mme, .ref mse])), (mst, .inl (cI, 76, .inl st))]) (w2 := (wX9_arranges_a cI cZ cM cS mo mst mpa mim mik mbi mbk mnr mia min mas mpr mfa mme mse deeds sd ent st nr_5 asd_2)) E (tX9_bring l D cI cZ cM cS mnr mas 12 12 nr_5 asd (0 : Int32) p2 (12 : Int32) hC9) 5 gX9_arranges_X9_bring rfl rfl rfl (by decide +kernel) ⟨Nat.le_of_ble_eq_true rfl, Nat.le_of_ble_eq_true rfl⟩ hK hP hD hS hA [2, 3] [0, 1] [0, 1, 2, 3] (by decide) rfl rfl (by decide) (by decide) rfl (by decide) rfl hl.1 rfl (Nat.le_of_ble_eq_true rfl) dX9_arranges_84 ⟨Nat.zero_le _, Nat.zero_le _⟩ (fun H locs hP hD hS => ?_)
    refine W.eq (g2 := F0 m 87 ls []) rfl ?_
    cases hF
    exact hRet _ _ _ _ dX9_arranges_87 hP hD hS
  have lp5 : ∀ (n : Nat) (x4_2 : Int32) (x3_2 : Int32) (nr_4 : (Nat → Int32)) (H : Heap) (locs : List Loc) (ls : Array Slot), olp (fX9_arranges_a_s17 st p2 asd deeds sd ent) n (x4_2, x3_2, nr_4) = some nr_5 → va_P D vwCl (wX9_arranges_a cI cZ cM cS mo mst mpa mim mik mbi mbk mnr mia min mas mpr mfa mme mse deeds sd ent st nr_4 asd) H → va_D A (wX9_arranges_a cI cZ cM cS mo mst mpa mim mik mbi mbk mnr mia min mas mpr mfa mme mse deeds sd ent st nr_4 asd) → va_S A s.heap H locs → lv_has ls 6 [(4, .int x4_2), (3, .int x3_2), (0, .ref mo), (1, .ref mas), (2, .int p2)] → W p l e (zRm 2 46) s m args below meth c H locs 0 0 Q (F0 m 17 ls []) := by
    intro n
    induction n with
    | zero => intro x4_2 x3_2 nr_4 H locs ls hL; exact olp_0 hL
    | succ n ih =>
      intro x4_2 x3_2 nr_4 H locs ls hL5 hP hD hS hl
      obtain ⟨z, hz5, hL5⟩ := olp_e hL5
      have hz5 : fX9_arranges_a_b17 st p2 asd deeds sd ent x4_2 x3_2 nr_4 = some z := hz5
      unfold fX9_arranges_a_b17 at hz5
      refine lv_iload (pc := 17) hx hb dX9_arranges_17 (lv_at hl 0 rfl) ?_
      refine lv_aload_n (pc := 19) hx hb dX9_arranges_19 rfl (lv_at hl 2 rfl) ?_
      refine va_get (pc := 20) (ci := 9) (C := RX9) (T := TX9) (N := 17) hx hb hts inX9 hown hK hP 0 rfl rfl 0 (by decide) fl7 (fun _ h9 => h9) rfl dX9_arranges_20 ?_
      refine lv_iconst (v := (0 : Int32)) (pc := 23) hx hb dX9_arranges_23 (by decide) ?_
      refine z_iald (pc := 24) (k := 0) hx hb hK hP 1 0 rfl rfl (by decide) (by decide) dX9_arranges_24 ?_
      refine lv_icmp_ge (pc := 25) (tgt := 75) hx hb dX9_arranges_25 (by decide) (fun hc => ?_) (fun hc => ?_)
      · have hz5 := oif_t hz5 hc
        have hE := olp_r hz5 hL5
        cases hE
        exact ex5 _ _ _ hP hD hS (lv_sub hl [2, 3, 4] rfl)
      · have hz5 := oif_f hz5 hc
        refine lv_aload_n (pc := 28) hx hb dX9_arranges_28 rfl (lv_at hl 2 rfl) ?_
        refine lv_aload_n (pc := 29) hx hb dX9_arranges_29 rfl (lv_at hl 3 rfl) ?_
        refine lv_iload_n (pc := 30) hx hb dX9_arranges_30 rfl (lv_at hl 4 rfl) ?_
        refine lv_aload_n (pc := 31) hx hb dX9_arranges_31 rfl (lv_at hl 3 rfl) ?_
        refine lv_iload_n (pc := 32) hx hb dX9_arranges_32 rfl (lv_at hl 4 rfl) ?_
        refine lv_iload (pc := 33) hx hb dX9_arranges_33 (lv_at hl 0 rfl) ?_
        refine lv_iadd (pc := 35) hx hb dX9_arranges_35 ?_
        obtain ⟨hg6, hz5⟩ := ogd_e hz5
        refine va_iald (pc := 36) hx hb hK hP 3 0 rfl rfl hg6 dX9_arranges_36 ?_
        obtain ⟨r_2, hC7, hz5⟩ := ob1_e hz5
        refine zVr (pc := 37) (As := [.ref mas, .int p2, .int (asd (Int32.toNatClampNeg (p2 + x4_2)))]) (rest := []) E (tX9_membersOf_a l D cI cZ cM cS mo mst mpa mim mik mbi mbk mnr mia min mas mpr mfa mme mse deeds sd ent st asd p2 (asd (Int32.toNatClampNeg (p2 + x4_2))) hC7) 3 gX9_arranges_X9_membersOf rfl rfl rfl (by decide +kernel) ⟨Nat.le_of_ble_eq_true rfl, Nat.le_of_ble_eq_true rfl⟩ hK hP [0, 1, 3] rfl 0 9 rfl rfl rfl rfl hl.1 rfl (Nat.le_of_ble_eq_true rfl) dX9_arranges_37 ⟨Nat.zero_le _, Nat.zero_le _⟩ ?_
        refine lv_istore (lv' := [(5, .int r_2), (4, .int x4_2), (3, .int x3_2), (0, .ref mo), (1, .ref mas), (2, .int p2)]) (pc := 40) hx hb dX9_arranges_40 hl (by decide) rfl (fun ls hl => ?_)
        refine lv_iload (pc := 42) hx hb dX9_arranges_42 (lv_at hl 0 rfl) ?_
        refine lv_iconst (v := (1 : Int32)) (pc := 44) hx hb dX9_arranges_44 (by decide) ?_
        refine lv_iload (pc := 45) hx hb dX9_arranges_45 (lv_at hl 1 rfl) ?_
        refine lv_ishl (pc := 47) hx hb dX9_arranges_47 ?_
        refine lv_iconst (v := (1 : Int32)) (pc := 48) hx hb dX9_arranges_48 (by decide) ?_
        refine lv_isub (pc := 49) hx hb dX9_arranges_49 ?_
        refine lv_iand (pc := 50) hx hb dX9_arranges_50 ?_
        refine lv_if_ne (pc := 51) (tgt := 69) hx hb dX9_arranges_51 (by decide) (fun hc => ?_) (fun hc => ?_)
        · have hz5 := oif_f hz5 hc
          refine lv_iinc (v := (x4_2 + (1 : Int32))) (lv' := [(4, .int (x4_2 + (1 : Int32))), (5, .int r_2), (3, .int x3_2), (0, .ref mo), (1, .ref mas), (2, .int p2)]) (pc := 69) hx hb dX9_arranges_69 hl (k := 1) rfl rfl (by decide) rfl (fun ls hl => ?_)
          refine lv_goto (pc := 72) (tgt := 17) hx hb dX9_arranges_72 (by decide) ?_
          exact ih _ _ _ _ _ _ (olp_l hz5 hL5) hP hD hS (lv_sub hl [0, 2, 3, 4, 5] rfl)
        · have hz5 := oif_t hz5 hc
          refine lv_aload_n (pc := 54) hx hb dX9_arranges_54 rfl (lv_at hl 3 rfl) ?_
          refine lv_aload_n (pc := 55) hx hb dX9_arranges_55 rfl (lv_at hl 3 rfl) ?_
          refine va_get (pc := 56) (ci := 9) (C := RX9) (T := TX9) (N := 17) hx hb hts inX9 hown hK hP 0 rfl rfl 9 (by decide) fl29 (fun _ h9 => h9) rfl dX9_arranges_56 ?_
          refine lv_iconst (v := (0 : Int32)) (pc := 59) hx hb dX9_arranges_59 (by decide) ?_
          refine lv_iload (pc := 60) hx hb dX9_arranges_60 (lv_at hl 0 rfl) ?_
          refine lv_iload_n (pc := 62) hx hb dX9_arranges_62 rfl (lv_at hl 2 rfl) ?_
          obtain ⟨nr_6, hC8, hz5⟩ := ob1_e hz5
          refine zV (pc := 63) (As := [.ref mnr, .int (0 : Int32), .int r_2, .int x3_2]) (rest := []) (wr := [(mas, .inl (cI, 12, .inl asd))]) (w2 := (wX9_arranges_a cI cZ cM cS mo mst mpa mim mik mbi mbk mnr mia min mas mpr mfa mme mse deeds sd ent st nr_6 asd)) E (tX9_gives l D cI cZ cM cS mo mst mpa mim mik mbi mbk mnr mia min mas mpr mfa mme mse deeds sd ent st nr_4 (0 : Int32) r_2 x3_2 hC8) 4 gX9_arranges_X9_gives rfl rfl rfl (by decide +kernel) ⟨Nat.le_of_ble_eq_true rfl, Nat.le_of_ble_eq_true rfl⟩ hK hP hD hS hA [0, 1, 2] [3] [1, 2, 3, 0] (by decide) rfl rfl (by decide) (by decide) rfl (by decide) 0 9 rfl rfl rfl rfl hl.1 rfl (Nat.le_of_ble_eq_true rfl) dX9_arranges_63 ⟨Nat.zero_le _, Nat.zero_le _⟩ (fun H locs hP hD hS => ?_)
          refine W.eq (g2 := F0 m 66 ls []) rfl ?_
          refine lv_iinc (v := (x3_2 + (1 : Int32))) (lv' := [(3, .int (x3_2 + (1 : Int32))), (5, .int r_2), (4, .int x4_2), (0, .ref mo), (1, .ref mas), (2, .int p2)]) (pc := 66) hx hb dX9_arranges_66 hl (k := 2) rfl rfl (by decide) rfl (fun ls hl => ?_)
          refine lv_iinc (v := (x4_2 + (1 : Int32))) (lv' := [(4, .int (x4_2 + (1 : Int32))), (3, .int (x3_2 + (1 : Int32))), (5, .int r_2), (0, .ref mo), (1, .ref mas), (2, .int p2)]) (pc := 69) hx hb dX9_arranges_69 hl (k := 2) rfl rfl (by decide) rfl (fun ls hl => ?_)
          refine lv_goto (pc := 72) (tgt := 17) hx hb dX9_arranges_72 (by decide) ?_
          exact ih _ _ _ _ _ _ (olp_l hz5 hL5) hP hD hS (lv_sub hl [0, 1, 3, 4, 5] rfl)
  exact lp5 oFu _ _ _ _ _ _ hL5 hP hD hS (lv_sub hl [0, 1, 2, 3, 4] rfl)
