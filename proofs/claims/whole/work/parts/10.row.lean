def fX5_gather (p1 : Int32) (qc : Int32) (qf : (Nat → Int32)) : Option (Int32 × (Nat → Int32)) := (some ((1 : Int32), (upd qf 0 p1)))
abbrev wX5_gather (cI cZ cM cS : ClassId) (qo qs : Nat) (qc : Int32) (qf : (Nat → Int32)) : va_W := [(qo, .inr (5, [.ref qs, .int qc])), (qs, .inl (cI, 12, .inl qf))]
set_option maxHeartbeats 4000000 in
set_option maxRecDepth 100000 in
theorem tX5_gather (l : Launch) (D : va_G) (cI cZ cM cS : ClassId) (qo qs : Nat) (qc : Int32) (qf : (Nat → Int32)) (p1 : Int32) {qc' : Int32} {qf' : (Nat → Int32)} (hF : fX5_gather p1 qc qf = some (qc', qf')) : zCW l yX5_gather wsX5_gather (zRm 0 0) D (zTy cI cZ cM cS) [.ref qo, .int p1] (wX5_gather cI cZ cM cS qo qs qc qf) (wX5_gather cI cZ cM cS qo qs qc' qf') none := by
  unfold fX5_gather at hF
  refine zCW_ofv (cc := cX5_gather) (maxL := 2) (own := RX5) (by decide) rfl rfl (Nat.le_of_ble_eq_true rfl) (fun p e s m args below meth c Q ls A E hA hK hP hD hRet hS hl => ?_)
  refine zgen (fun H locs hP hS => ?_) hP hS
  have hl : lv_has ls 2 [(0, .ref qo), (1, .int p1)] := hl
  obtain ⟨hx, hb, hml, hown, hts⟩ := id E
  have inX5 : ∀ w ∈ u_ws RX5 TX5 2, w ∈ wsX5_gather := by decide +kernel
  have fl15 := hts (.fieldLink RX5 15 "SplitClasses$Row" "count" "I") (by decide +kernel)
  have fl9 := hts (.fieldLink RX5 9 "SplitClasses$Row" "sets" "[I") (by decide +kernel)
  refine lv_aload_n (pc := 0) hx hb dX5_gather_0 rfl (lv_at hl 0 rfl) ?_
  refine va_get (pc := 1) (ci := 5) (C := RX5) (T := TX5) (N := 2) hx hb hts inX5 hown hK hP 0 rfl rfl 0 (by decide) fl9 (fun _ h9 => h9) rfl dX5_gather_1 ?_
  refine lv_iconst (v := (0 : Int32)) (pc := 4) hx hb dX5_gather_4 (by decide) ?_
  refine lv_iload_n (pc := 5) hx hb dX5_gather_5 rfl (lv_at hl 1 rfl) ?_
  refine z_iast (pc := 6) (k := 0) hx hb hK hP hD hS 1 0 rfl rfl (by decide) (by decide) dX5_gather_6 (fun H locs hP hD hS => ?_)
  have hP : va_P D vwCl (wX5_gather cI cZ cM cS qo qs qc (upd qf 0 p1)) H := hP
  have hD : va_D A (wX5_gather cI cZ cM cS qo qs qc (upd qf 0 p1)) := hD
  refine lv_aload_n (pc := 7) hx hb dX5_gather_7 rfl (lv_at hl 0 rfl) ?_
  refine lv_iconst (v := (1 : Int32)) (pc := 8) hx hb dX5_gather_8 (by decide) ?_
  refine va_put (pc := 9) (D := D) (ci := 5) (v := .int (1 : Int32)) (ty := .int) (C := RX5) (T := TX5) (N := 2) hx hb hts inX5 tyX5 tyX5_ok nmX5 hown hK hP hD hS 0 rfl rfl 1 (by decide) fl15 (fun _ h9 => h9) rfl (by decide +kernel) rfl rfl (Nat.le_of_ble_eq_true rfl) dX5_gather_9 (fun H locs hP hD hS => ?_)
  have hP : va_P D vwCl (wX5_gather cI cZ cM cS qo qs (1 : Int32) (upd qf 0 p1)) H := hP
  have hD : va_D A (wX5_gather cI cZ cM cS qo qs (1 : Int32) (upd qf 0 p1)) := hD
  cases hF
  exact hRet _ _ _ _ dX5_gather_12 hP hD hS
def fX5_copyFrom (qc : Int32) (qf : (Nat → Int32)) (uc : Int32) (uf : (Nat → Int32)) : Option (Int32 × (Nat → Int32)) := (some (uc, (va_cpy uf qf 0 0 12)))
abbrev wX5_copyFrom (cI cZ cM cS : ClassId) (qo qs uo us : Nat) (qc : Int32) (qf : (Nat → Int32)) (uc : Int32) (uf : (Nat → Int32)) : va_W := [(qo, .inr (5, [.ref qs, .int qc])), (qs, .inl (cI, 12, .inl qf)), (uo, .inr (5, [.ref us, .int uc])), (us, .inl (cI, 12, .inl uf))]
set_option maxHeartbeats 4000000 in
set_option maxRecDepth 100000 in
theorem tX5_copyFrom (l : Launch) (D : va_G) (cI cZ cM cS : ClassId) (qo qs uo us : Nat) (qc : Int32) (qf : (Nat → Int32)) (uc : Int32) (uf : (Nat → Int32)) {qc' : Int32} {qf' : (Nat → Int32)} (hF : fX5_copyFrom qc qf uc uf = some (qc', qf')) : zCW l yX5_copyFrom wsX5_copyFrom (zRm 1 48) D (zTy cI cZ cM cS) [.ref qo, .ref uo] (wX5_copyFrom cI cZ cM cS qo qs uo us qc qf uc uf) (wX5_copyFrom cI cZ cM cS qo qs uo us qc' qf' uc uf) none := by
  unfold fX5_copyFrom at hF
  refine zCW_ofv (cc := cX5_copyFrom) (maxL := 2) (own := RX5) (by decide) rfl rfl (Nat.le_of_ble_eq_true rfl) (fun p e s m args below meth c Q ls A E hA hK hP hD hRet hS hl => ?_)
  refine zgen (fun H locs hP hS => ?_) hP hS
  have hl : lv_has ls 2 [(0, .ref qo), (1, .ref uo)] := hl
  obtain ⟨hx, hb, hml, hown, hts⟩ := id E
  have inX5 : ∀ w ∈ u_ws RX5 TX5 2, w ∈ wsX5_copyFrom := by decide +kernel
  have fl15 := hts (.fieldLink RX5 15 "SplitClasses$Row" "count" "I") (by decide +kernel)
  have fl9 := hts (.fieldLink RX5 9 "SplitClasses$Row" "sets" "[I") (by decide +kernel)
  refine lv_aload_n (pc := 0) hx hb dX5_copyFrom_0 rfl (lv_at hl 1 rfl) ?_
  refine va_get (pc := 1) (ci := 5) (C := RX5) (T := TX5) (N := 2) hx hb hts inX5 hown hK hP 2 rfl rfl 0 (by decide) fl9 (fun _ h9 => h9) rfl dX5_copyFrom_1 ?_
  refine lv_iconst (v := (0 : Int32)) (pc := 4) hx hb dX5_copyFrom_4 (by decide) ?_
  refine lv_aload_n (pc := 5) hx hb dX5_copyFrom_5 rfl (lv_at hl 0 rfl) ?_
  refine va_get (pc := 6) (ci := 5) (C := RX5) (T := TX5) (N := 2) hx hb hts inX5 hown hK hP 0 rfl rfl 0 (by decide) fl9 (fun _ h9 => h9) rfl dX5_copyFrom_6 ?_
  refine lv_iconst (v := (0 : Int32)) (pc := 9) hx hb dX5_copyFrom_9 (by decide) ?_
  refine lv_bipush (v := (12 : Int32)) (pc := 10) hx hb dX5_copyFrom_10 (by decide) ?_
  refine va_copyi (pc := 12) (ty := .int) (D := D) hx hb (hml.trans hl.1.symm) hown (hts (.methodLink RX5 19 arraycopyName) (by decide +kernel)) (hts (.native arraycopyName) (by decide +kernel)) (hts (.static arraycopyName) (by decide +kernel)) (hts (.initialized "java/lang/System") (by decide +kernel)) hK hP hD hS 3 1 0 0 rfl rfl rfl rfl rfl (by decide) (by decide) (by decide) (by decide) (by decide) (fun i _ => rfl) (Nat.le_of_ble_eq_true rfl) (Nat.le_of_ble_eq_true rfl) dX5_copyFrom_12 (fun H locs hP hD hS => ?_)
  have hP : va_P D vwCl (wX5_copyFrom cI cZ cM cS qo qs uo us qc (va_cpy uf qf 0 0 12) uc uf) H := hP
  have hD : va_D A (wX5_copyFrom cI cZ cM cS qo qs uo us qc (va_cpy uf qf 0 0 12) uc uf) := hD
  refine lv_aload_n (pc := 15) hx hb dX5_copyFrom_15 rfl (lv_at hl 0 rfl) ?_
  refine lv_aload_n (pc := 16) hx hb dX5_copyFrom_16 rfl (lv_at hl 1 rfl) ?_
  refine va_get (pc := 17) (ci := 5) (C := RX5) (T := TX5) (N := 2) hx hb hts inX5 hown hK hP 2 rfl rfl 1 (by decide) fl15 (fun _ h9 => h9) rfl dX5_copyFrom_17 ?_
  refine va_put (pc := 20) (D := D) (ci := 5) (v := .int uc) (ty := .int) (C := RX5) (T := TX5) (N := 2) hx hb hts inX5 tyX5 tyX5_ok nmX5 hown hK hP hD hS 0 rfl rfl 1 (by decide) fl15 (fun _ h9 => h9) rfl (by decide +kernel) rfl rfl (Nat.le_of_ble_eq_true rfl) dX5_copyFrom_20 (fun H locs hP hD hS => ?_)
  have hP : va_P D vwCl (wX5_copyFrom cI cZ cM cS qo qs uo us uc (va_cpy uf qf 0 0 12) uc uf) H := hP
  have hD : va_D A (wX5_copyFrom cI cZ cM cS qo qs uo us uc (va_cpy uf qf 0 0 12) uc uf) := hD
  cases hF
  exact hRet _ _ _ _ dX5_copyFrom_23 hP hD hS
def fX5_hasPlace (p1 : Int32) (qc : Int32) (qf : (Nat → Int32)) : Option (Int32) := (if p1 < (0 : Int32) then (some (0 : Int32)) else (if qc ≤ p1 then (some (0 : Int32)) else (some (1 : Int32))))
abbrev wX5_hasPlace (cI cZ cM cS : ClassId) (qo qs : Nat) (qc : Int32) (qf : (Nat → Int32)) : va_W := [(qo, .inr (5, [.ref qs, .int qc])), (qs, .inl (cI, 12, .inl qf))]
set_option maxHeartbeats 4000000 in
set_option maxRecDepth 100000 in
theorem tX5_hasPlace (l : Launch) (D : va_G) (cI cZ cM cS : ClassId) (qo qs : Nat) (qc : Int32) (qf : (Nat → Int32)) (p1 : Int32) {r : Int32} (hF : fX5_hasPlace p1 qc qf = some r) : zCR l yX5_hasPlace wsX5_hasPlace (zRm 0 0) D (zTy cI cZ cM cS) [.ref qo, .int p1] (wX5_hasPlace cI cZ cM cS qo qs qc qf) r := by
  unfold fX5_hasPlace at hF
  refine zCR_of (cc := cX5_hasPlace) (maxL := 2) (own := RX5) (by decide +kernel) rfl rfl (Nat.le_of_ble_eq_true rfl) (fun p e s m args below meth c Q ls E hK hP hRet hl => ?_)
  have hl : lv_has ls 2 [(0, .ref qo), (1, .int p1)] := hl
  obtain ⟨hx, hb, hml, hown, hts⟩ := id E
  have inX5 : ∀ w ∈ u_ws RX5 TX5 2, w ∈ wsX5_hasPlace := by decide +kernel
  have fl15 := hts (.fieldLink RX5 15 "SplitClasses$Row" "count" "I") (by decide +kernel)
  refine lv_iload_n (pc := 0) hx hb dX5_hasPlace_0 rfl (lv_at hl 1 rfl) ?_
  refine lv_if_lt (pc := 1) (tgt := 16) hx hb dX5_hasPlace_1 (by decide) (fun hc => ?_) (fun hc => ?_)
  · have hF := oif_t hF hc
    refine lv_iconst (v := (0 : Int32)) (pc := 16) hx hb dX5_hasPlace_16 (by decide) ?_
    cases hF
    exact hRet _ _ rfl dX5_hasPlace_17
  · have hF := oif_f hF hc
    refine lv_iload_n (pc := 4) hx hb dX5_hasPlace_4 rfl (lv_at hl 1 rfl) ?_
    refine lv_aload_n (pc := 5) hx hb dX5_hasPlace_5 rfl (lv_at hl 0 rfl) ?_
    refine va_get (pc := 6) (ci := 5) (C := RX5) (T := TX5) (N := 2) hx hb hts inX5 hown hK hP 0 rfl rfl 1 (by decide) fl15 (fun _ h9 => h9) rfl dX5_hasPlace_6 ?_
    refine lv_icmp_ge (pc := 9) (tgt := 16) hx hb dX5_hasPlace_9 (by decide) (fun hc => ?_) (fun hc => ?_)
    · have hF := oif_t hF hc
      refine lv_iconst (v := (0 : Int32)) (pc := 16) hx hb dX5_hasPlace_16 (by decide) ?_
      cases hF
      exact hRet _ _ rfl dX5_hasPlace_17
    · have hF := oif_f hF hc
      refine lv_iconst (v := (1 : Int32)) (pc := 12) hx hb dX5_hasPlace_12 (by decide) ?_
      refine lv_goto (pc := 13) (tgt := 17) hx hb dX5_hasPlace_13 (by decide) ?_
      cases hF
      exact hRet _ _ rfl dX5_hasPlace_17
def fX5_setAt (p1 : Int32) (qc : Int32) (qf : (Nat → Int32)) : Option (Int32) := (ob1 (fX5_hasPlace p1 qc qf) (fun r_1 => (if r_1 = (0 : Int32) then (some (0 : Int32)) else (ogd p1 12 (some (qf (Int32.toNatClampNeg p1)))))))
abbrev wX5_setAt (cI cZ cM cS : ClassId) (qo qs : Nat) (qc : Int32) (qf : (Nat → Int32)) : va_W := [(qo, .inr (5, [.ref qs, .int qc])), (qs, .inl (cI, 12, .inl qf))]
set_option maxHeartbeats 4000000 in
set_option maxRecDepth 100000 in
theorem tX5_setAt (l : Launch) (D : va_G) (cI cZ cM cS : ClassId) (qo qs : Nat) (qc : Int32) (qf : (Nat → Int32)) (p1 : Int32) {r : Int32} (hF : fX5_setAt p1 qc qf = some r) : zCR l yX5_setAt wsX5_setAt (zRm 1 21) D (zTy cI cZ cM cS) [.ref qo, .int p1] (wX5_setAt cI cZ cM cS qo qs qc qf) r := by
  unfold fX5_setAt at hF
  refine zCR_of (cc := cX5_setAt) (maxL := 2) (own := RX5) (by decide +kernel) rfl rfl (Nat.le_of_ble_eq_true rfl) (fun p e s m args below meth c Q ls E hK hP hRet hl => ?_)
  have hl : lv_has ls 2 [(0, .ref qo), (1, .int p1)] := hl
  obtain ⟨hx, hb, hml, hown, hts⟩ := id E
  have inX5 : ∀ w ∈ u_ws RX5 TX5 2, w ∈ wsX5_setAt := by decide +kernel
  have fl9 := hts (.fieldLink RX5 9 "SplitClasses$Row" "sets" "[I") (by decide +kernel)
  refine lv_aload_n (pc := 0) hx hb dX5_setAt_0 rfl (lv_at hl 0 rfl) ?_
  refine lv_iload_n (pc := 1) hx hb dX5_setAt_1 rfl (lv_at hl 1 rfl) ?_
  obtain ⟨r_1, hC1, hF⟩ := ob1_e hF
  refine zVr (pc := 2) (As := [.int p1]) (rest := []) E (tX5_hasPlace l D cI cZ cM cS qo qs qc qf p1 hC1) 1 gX5_setAt_X5_hasPlace rfl rfl rfl (by decide +kernel) ⟨Nat.le_of_ble_eq_true rfl, Nat.le_of_ble_eq_true rfl⟩ hK hP [0, 1] rfl 0 5 rfl rfl rfl rfl hl.1 rfl (Nat.le_of_ble_eq_true rfl) dX5_setAt_2 ⟨Nat.zero_le _, Nat.zero_le _⟩ ?_
  refine lv_if_eq (pc := 5) (tgt := 17) hx hb dX5_setAt_5 (by decide) (fun hc => ?_) (fun hc => ?_)
  · have hF := oif_t hF hc
    refine lv_iconst (v := (0 : Int32)) (pc := 17) hx hb dX5_setAt_17 (by decide) ?_
    cases hF
    exact hRet _ _ rfl dX5_setAt_18
  · have hF := oif_f hF hc
    refine lv_aload_n (pc := 8) hx hb dX5_setAt_8 rfl (lv_at hl 0 rfl) ?_
    refine va_get (pc := 9) (ci := 5) (C := RX5) (T := TX5) (N := 2) hx hb hts inX5 hown hK hP 0 rfl rfl 0 (by decide) fl9 (fun _ h9 => h9) rfl dX5_setAt_9 ?_
    refine lv_iload_n (pc := 12) hx hb dX5_setAt_12 rfl (lv_at hl 1 rfl) ?_
    obtain ⟨hg2, hF⟩ := ogd_e hF
    refine va_iald (pc := 13) hx hb hK hP 1 0 rfl rfl hg2 dX5_setAt_13 ?_
    refine lv_goto (pc := 14) (tgt := 18) hx hb dX5_setAt_14 (by decide) ?_
    cases hF
    exact hRet _ _ rfl dX5_setAt_18
def fX5_placeOf_b2 (qc : Int32) (qf : (Nat → Int32)) (p1 : Int32) (x2_2 : Int32) : Option ((Int32) ⊕ (Int32)) := (if qc ≤ x2_2 then (some (.inr (-1 : Int32))) else (ogd x2_2 12 (if (((qf (Int32.toNatClampNeg x2_2)) >>> (p1 &&& 31)) &&& (1 : Int32)) = (0 : Int32) then (some (.inl (x2_2 + (1 : Int32)))) else (some (.inr x2_2)))))
def fX5_placeOf_s2 (qc : Int32) (qf : (Nat → Int32)) (p1 : Int32) (sg_ : Int32) : Option ((Int32) ⊕ (Int32)) := fX5_placeOf_b2 qc qf p1 sg_
def fX5_placeOf (p1 : Int32) (qc : Int32) (qf : (Nat → Int32)) : Option (Int32) := (olp (fX5_placeOf_s2 qc qf p1) oFu (0 : Int32))
abbrev wX5_placeOf (cI cZ cM cS : ClassId) (qo qs : Nat) (qc : Int32) (qf : (Nat → Int32)) : va_W := [(qo, .inr (5, [.ref qs, .int qc])), (qs, .inl (cI, 12, .inl qf))]
set_option maxHeartbeats 4000000 in
set_option maxRecDepth 100000 in
theorem tX5_placeOf (l : Launch) (D : va_G) (cI cZ cM cS : ClassId) (qo qs : Nat) (qc : Int32) (qf : (Nat → Int32)) (p1 : Int32) {r : Int32} (hF : fX5_placeOf p1 qc qf = some r) : zCR l yX5_placeOf wsX5_placeOf (zRm 0 0) D (zTy cI cZ cM cS) [.ref qo, .int p1] (wX5_placeOf cI cZ cM cS qo qs qc qf) r := by
  unfold fX5_placeOf at hF
  refine zCR_of (cc := cX5_placeOf) (maxL := 3) (own := RX5) (by decide +kernel) rfl rfl (Nat.le_of_ble_eq_true rfl) (fun p e s m args below meth c Q ls E hK hP hRet hl => ?_)
  have hl : lv_has ls 3 [(0, .ref qo), (1, .int p1)] := hl
  obtain ⟨hx, hb, hml, hown, hts⟩ := id E
  have inX5 : ∀ w ∈ u_ws RX5 TX5 2, w ∈ wsX5_placeOf := by decide +kernel
  have fl15 := hts (.fieldLink RX5 15 "SplitClasses$Row" "count" "I") (by decide +kernel)
  have fl9 := hts (.fieldLink RX5 9 "SplitClasses$Row" "sets" "[I") (by decide +kernel)
  refine lv_iconst (v := (0 : Int32)) (pc := 0) hx hb dX5_placeOf_0 (by decide) ?_
  refine lv_istore_n (lv' := [(2, .int (0 : Int32)), (0, .ref qo), (1, .int p1)]) (pc := 1) hx hb dX5_placeOf_1 rfl hl (by decide) rfl (fun ls hl => ?_)
  have hL2 := hF
  have lp2 : ∀ (n : Nat) (x2_2 : Int32) (ls : Array Slot), olp (fX5_placeOf_s2 qc qf p1) n x2_2 = some r → lv_has ls 3 [(2, .int x2_2), (0, .ref qo), (1, .int p1)] → W p l e (zRm 0 0) s m args below meth c s.heap [] 0 0 Q (F0 m 2 ls []) := by
    intro n
    induction n with
    | zero => intro x2_2 ls hL; exact olp_0 hL
    | succ n ih =>
      intro x2_2 ls hL2 hl
      obtain ⟨z, hz2, hL2⟩ := olp_e hL2
      have hz2 : fX5_placeOf_b2 qc qf p1 x2_2 = some z := hz2
      unfold fX5_placeOf_b2 at hz2
      refine lv_iload_n (pc := 2) hx hb dX5_placeOf_2 rfl (lv_at hl 0 rfl) ?_
      refine lv_aload_n (pc := 3) hx hb dX5_placeOf_3 rfl (lv_at hl 1 rfl) ?_
      refine va_get (pc := 4) (ci := 5) (C := RX5) (T := TX5) (N := 2) hx hb hts inX5 hown hK hP 0 rfl rfl 1 (by decide) fl15 (fun _ h9 => h9) rfl dX5_placeOf_4 ?_
      refine lv_icmp_ge (pc := 7) (tgt := 31) hx hb dX5_placeOf_7 (by decide) (fun hc => ?_) (fun hc => ?_)
      · have hz2 := oif_t hz2 hc
        refine lv_iconst (v := (-1 : Int32)) (pc := 31) hx hb dX5_placeOf_31 (by decide) ?_
        have hE := olp_r hz2 hL2
        cases hE
        exact hRet _ _ rfl dX5_placeOf_32
      · have hz2 := oif_f hz2 hc
        refine lv_aload_n (pc := 10) hx hb dX5_placeOf_10 rfl (lv_at hl 1 rfl) ?_
        refine va_get (pc := 11) (ci := 5) (C := RX5) (T := TX5) (N := 2) hx hb hts inX5 hown hK hP 0 rfl rfl 0 (by decide) fl9 (fun _ h9 => h9) rfl dX5_placeOf_11 ?_
        refine lv_iload_n (pc := 14) hx hb dX5_placeOf_14 rfl (lv_at hl 0 rfl) ?_
        obtain ⟨hg3, hz2⟩ := ogd_e hz2
        refine va_iald (pc := 15) hx hb hK hP 1 0 rfl rfl hg3 dX5_placeOf_15 ?_
        refine lv_iload_n (pc := 16) hx hb dX5_placeOf_16 rfl (lv_at hl 2 rfl) ?_
        refine lv_ishr (pc := 17) hx hb dX5_placeOf_17 ?_
        refine lv_iconst (v := (1 : Int32)) (pc := 18) hx hb dX5_placeOf_18 (by decide) ?_
        refine lv_iand (pc := 19) hx hb dX5_placeOf_19 ?_
        refine lv_if_eq (pc := 20) (tgt := 25) hx hb dX5_placeOf_20 (by decide) (fun hc => ?_) (fun hc => ?_)
        · have hz2 := oif_t hz2 hc
          refine lv_iinc (v := (x2_2 + (1 : Int32))) (lv' := [(2, .int (x2_2 + (1 : Int32))), (0, .ref qo), (1, .int p1)]) (pc := 25) hx hb dX5_placeOf_25 hl (k := 0) rfl rfl (by decide) rfl (fun ls hl => ?_)
          refine lv_goto (pc := 28) (tgt := 2) hx hb dX5_placeOf_28 (by decide) ?_
          exact ih _ _ (olp_l hz2 hL2) (lv_sub hl [0, 1, 2] rfl)
        · have hz2 := oif_f hz2 hc
          refine lv_iload_n (pc := 23) hx hb dX5_placeOf_23 rfl (lv_at hl 0 rfl) ?_
          have hE := olp_r hz2 hL2
          cases hE
          exact hRet _ _ rfl dX5_placeOf_24
  exact lp2 oFu _ _ hL2 (lv_sub hl [0, 1, 2] rfl)
def fX5_openPlace_b5 (p1 : Int32) (x2_2 : Int32) (qf_2 : (Nat → Int32)) : Option ((Int32 × (Nat → Int32)) ⊕ ((Nat → Int32))) := (if x2_2 ≤ p1 then (some (.inr qf_2)) else (ogd (x2_2 - (1 : Int32)) 12 (ogd x2_2 12 (some (.inl ((x2_2 + (-1 : Int32)), (upd qf_2 (Int32.toNatClampNeg x2_2) (qf_2 (Int32.toNatClampNeg (x2_2 - (1 : Int32)))))))))))
def fX5_openPlace_s5 (p1 : Int32) (sg_ : Int32 × (Nat → Int32)) : Option ((Int32 × (Nat → Int32)) ⊕ ((Nat → Int32))) := fX5_openPlace_b5 p1 sg_.1 sg_.2
def fX5_openPlace (p1 : Int32) (qc : Int32) (qf : (Nat → Int32)) : Option (Int32 × (Nat → Int32)) := (ob1 (olp (fX5_openPlace_s5 p1) oFu (qc, qf)) (fun qf_3 => (some ((qc + (1 : Int32)), qf_3))))
abbrev wX5_openPlace (cI cZ cM cS : ClassId) (qo qs : Nat) (qc : Int32) (qf : (Nat → Int32)) : va_W := [(qo, .inr (5, [.ref qs, .int qc])), (qs, .inl (cI, 12, .inl qf))]
set_option maxHeartbeats 4000000 in
set_option maxRecDepth 100000 in
theorem tX5_openPlace (l : Launch) (D : va_G) (cI cZ cM cS : ClassId) (qo qs : Nat) (qc : Int32) (qf : (Nat → Int32)) (p1 : Int32) {qc' : Int32} {qf' : (Nat → Int32)} (hF : fX5_openPlace p1 qc qf = some (qc', qf')) : zCW l yX5_openPlace wsX5_openPlace (zRm 0 0) D (zTy cI cZ cM cS) [.ref qo, .int p1] (wX5_openPlace cI cZ cM cS qo qs qc qf) (wX5_openPlace cI cZ cM cS qo qs qc' qf') none := by
  unfold fX5_openPlace at hF
  refine zCW_ofv (cc := cX5_openPlace) (maxL := 3) (own := RX5) (by decide) rfl rfl (Nat.le_of_ble_eq_true rfl) (fun p e s m args below meth c Q ls A E hA hK hP hD hRet hS hl => ?_)
  refine zgen (fun H locs hP hS => ?_) hP hS
  have hl : lv_has ls 3 [(0, .ref qo), (1, .int p1)] := hl
  obtain ⟨hx, hb, hml, hown, hts⟩ := id E
  have inX5 : ∀ w ∈ u_ws RX5 TX5 2, w ∈ wsX5_openPlace := by decide +kernel
  have fl15 := hts (.fieldLink RX5 15 "SplitClasses$Row" "count" "I") (by decide +kernel)
  have fl9 := hts (.fieldLink RX5 9 "SplitClasses$Row" "sets" "[I") (by decide +kernel)
  refine lv_aload_n (pc := 0) hx hb dX5_openPlace_0 rfl (lv_at hl 0 rfl) ?_
  refine va_get (pc := 1) (ci := 5) (C := RX5) (T := TX5) (N := 2) hx hb hts inX5 hown hK hP 0 rfl rfl 1 (by decide) fl15 (fun _ h9 => h9) rfl dX5_openPlace_1 ?_
  refine lv_istore_n (lv' := [(2, .int qc), (0, .ref qo), (1, .int p1)]) (pc := 4) hx hb dX5_openPlace_4 rfl hl (by decide) rfl (fun ls hl => ?_)
  obtain ⟨qf_3, hL3, hF⟩ := ob1_e hF
  have ex3 : ∀ (H : Heap) (locs : List Loc) (ls : Array Slot), va_P D vwCl (wX5_openPlace cI cZ cM cS qo qs qc qf_3) H → va_D A (wX5_openPlace cI cZ cM cS qo qs qc qf_3) → va_S A s.heap H locs → lv_has ls 3 [(0, .ref qo)] → W p l e (zRm 0 0) s m args below meth c H locs 0 0 Q (F0 m 30 ls []) := by
    intro H locs ls hP hD hS hl
    refine lv_aload_n (pc := 30) hx hb dX5_openPlace_30 rfl (lv_at hl 0 rfl) ?_
    refine lv_dup (pc := 31) hx hb dX5_openPlace_31 rfl ?_
    refine va_get (pc := 32) (ci := 5) (C := RX5) (T := TX5) (N := 2) hx hb hts inX5 hown hK hP 0 rfl rfl 1 (by decide) fl15 (fun _ h9 => h9) rfl dX5_openPlace_32 ?_
    refine lv_iconst (v := (1 : Int32)) (pc := 35) hx hb dX5_openPlace_35 (by decide) ?_
    refine lv_iadd (pc := 36) hx hb dX5_openPlace_36 ?_
    refine va_put (pc := 37) (D := D) (ci := 5) (v := .int (qc + (1 : Int32))) (ty := .int) (C := RX5) (T := TX5) (N := 2) hx hb hts inX5 tyX5 tyX5_ok nmX5 hown hK hP hD hS 0 rfl rfl 1 (by decide) fl15 (fun _ h9 => h9) rfl (by decide +kernel) rfl rfl (Nat.le_of_ble_eq_true rfl) dX5_openPlace_37 (fun H locs hP hD hS => ?_)
    have hP : va_P D vwCl (wX5_openPlace cI cZ cM cS qo qs (qc + (1 : Int32)) qf_3) H := hP
    have hD : va_D A (wX5_openPlace cI cZ cM cS qo qs (qc + (1 : Int32)) qf_3) := hD
    cases hF
    exact hRet _ _ _ _ dX5_openPlace_40 hP hD hS
  have lp3 : ∀ (n : Nat) (x2_2 : Int32) (qf_2 : (Nat → Int32)) (H : Heap) (locs : List Loc) (ls : Array Slot), olp (fX5_openPlace_s5 p1) n (x2_2, qf_2) = some qf_3 → va_P D vwCl (wX5_openPlace cI cZ cM cS qo qs qc qf_2) H → va_D A (wX5_openPlace cI cZ cM cS qo qs qc qf_2) → va_S A s.heap H locs → lv_has ls 3 [(2, .int x2_2), (0, .ref qo), (1, .int p1)] → W p l e (zRm 0 0) s m args below meth c H locs 0 0 Q (F0 m 5 ls []) := by
    intro n
    induction n with
    | zero => intro x2_2 qf_2 H locs ls hL; exact olp_0 hL
    | succ n ih =>
      intro x2_2 qf_2 H locs ls hL3 hP hD hS hl
      obtain ⟨z, hz3, hL3⟩ := olp_e hL3
      have hz3 : fX5_openPlace_b5 p1 x2_2 qf_2 = some z := hz3
      unfold fX5_openPlace_b5 at hz3
      refine lv_iload_n (pc := 5) hx hb dX5_openPlace_5 rfl (lv_at hl 0 rfl) ?_
      refine lv_iload_n (pc := 6) hx hb dX5_openPlace_6 rfl (lv_at hl 2 rfl) ?_
      refine lv_icmp_le (pc := 7) (tgt := 30) hx hb dX5_openPlace_7 (by decide) (fun hc => ?_) (fun hc => ?_)
      · have hz3 := oif_t hz3 hc
        have hE := olp_r hz3 hL3
        cases hE
        exact ex3 _ _ _ hP hD hS (lv_sub hl [1] rfl)
      · have hz3 := oif_f hz3 hc
        refine lv_aload_n (pc := 10) hx hb dX5_openPlace_10 rfl (lv_at hl 1 rfl) ?_
        refine va_get (pc := 11) (ci := 5) (C := RX5) (T := TX5) (N := 2) hx hb hts inX5 hown hK hP 0 rfl rfl 0 (by decide) fl9 (fun _ h9 => h9) rfl dX5_openPlace_11 ?_
        refine lv_iload_n (pc := 14) hx hb dX5_openPlace_14 rfl (lv_at hl 0 rfl) ?_
        refine lv_aload_n (pc := 15) hx hb dX5_openPlace_15 rfl (lv_at hl 1 rfl) ?_
        refine va_get (pc := 16) (ci := 5) (C := RX5) (T := TX5) (N := 2) hx hb hts inX5 hown hK hP 0 rfl rfl 0 (by decide) fl9 (fun _ h9 => h9) rfl dX5_openPlace_16 ?_
        refine lv_iload_n (pc := 19) hx hb dX5_openPlace_19 rfl (lv_at hl 0 rfl) ?_
        refine lv_iconst (v := (1 : Int32)) (pc := 20) hx hb dX5_openPlace_20 (by decide) ?_
        refine lv_isub (pc := 21) hx hb dX5_openPlace_21 ?_
        obtain ⟨hg4, hz3⟩ := ogd_e hz3
        refine va_iald (pc := 22) hx hb hK hP 1 0 rfl rfl hg4 dX5_openPlace_22 ?_
        obtain ⟨hg5, hz3⟩ := ogd_e hz3
        refine va_iast (pc := 23) hx hb hK hP hD hS 1 0 rfl rfl hg5 dX5_openPlace_23 (fun H locs hP hD hS => ?_)
        have hP : va_P D vwCl (wX5_openPlace cI cZ cM cS qo qs qc (upd qf_2 (Int32.toNatClampNeg x2_2) (qf_2 (Int32.toNatClampNeg (x2_2 - (1 : Int32)))))) H := hP
        have hD : va_D A (wX5_openPlace cI cZ cM cS qo qs qc (upd qf_2 (Int32.toNatClampNeg x2_2) (qf_2 (Int32.toNatClampNeg (x2_2 - (1 : Int32)))))) := hD
        refine lv_iinc (v := (x2_2 + (-1 : Int32))) (lv' := [(2, .int (x2_2 + (-1 : Int32))), (0, .ref qo), (1, .int p1)]) (pc := 24) hx hb dX5_openPlace_24 hl (k := 0) rfl rfl (by decide) rfl (fun ls hl => ?_)
        refine lv_goto (pc := 27) (tgt := 5) hx hb dX5_openPlace_27 (by decide) ?_
        exact ih _ _ _ _ _ (olp_l hz3 hL3) hP hD hS (lv_sub hl [0, 1, 2] rfl)
  exact lp3 oFu _ _ _ _ _ hL3 hP hD hS (lv_sub hl [0, 1, 2] rfl)
def fX5_closePlace_b12 (qc : Int32) (x2_2 : Int32) (qf_2 : (Nat → Int32)) : Option ((Int32 × (Nat → Int32)) ⊕ ((Nat → Int32))) := (if (qc - (1 : Int32)) ≤ x2_2 then (some (.inr qf_2)) else (ogd (x2_2 + (1 : Int32)) 12 (ogd x2_2 12 (some (.inl ((x2_2 + (1 : Int32)), (upd qf_2 (Int32.toNatClampNeg x2_2) (qf_2 (Int32.toNatClampNeg (x2_2 + (1 : Int32)))))))))))
def fX5_closePlace_s12 (qc : Int32) (sg_ : Int32 × (Nat → Int32)) : Option ((Int32 × (Nat → Int32)) ⊕ ((Nat → Int32))) := fX5_closePlace_b12 qc sg_.1 sg_.2
def fX5_closePlace (p1 : Int32) (qc : Int32) (qf : (Nat → Int32)) : Option (Int32 × (Nat → Int32)) := (ob1 (olp (fX5_closePlace_s12 qc) oFu (p1, qf)) (fun qf_3 => (some ((qc - (1 : Int32)), qf_3))))
abbrev wX5_closePlace (cI cZ cM cS : ClassId) (qo qs : Nat) (qc : Int32) (qf : (Nat → Int32)) : va_W := [(qo, .inr (5, [.ref qs, .int qc])), (qs, .inl (cI, 12, .inl qf))]
set_option maxHeartbeats 4000000 in
set_option maxRecDepth 100000 in
theorem tX5_closePlace (l : Launch) (D : va_G) (cI cZ cM cS : ClassId) (qo qs : Nat) (qc : Int32) (qf : (Nat → Int32)) (p1 : Int32) {qc' : Int32} {qf' : (Nat → Int32)} (hF : fX5_closePlace p1 qc qf = some (qc', qf')) : zCW l yX5_closePlace wsX5_closePlace (zRm 0 0) D (zTy cI cZ cM cS) [.ref qo, .int p1] (wX5_closePlace cI cZ cM cS qo qs qc qf) (wX5_closePlace cI cZ cM cS qo qs qc' qf') none := by
  unfold fX5_closePlace at hF
  refine zCW_ofv (cc := cX5_closePlace) (maxL := 3) (own := RX5) (by decide) rfl rfl (Nat.le_of_ble_eq_true rfl) (fun p e s m args below meth c Q ls A E hA hK hP hD hRet hS hl => ?_)
  refine zgen (fun H locs hP hS => ?_) hP hS
  have hl : lv_has ls 3 [(0, .ref qo), (1, .int p1)] := hl
  obtain ⟨hx, hb, hml, hown, hts⟩ := id E
  have inX5 : ∀ w ∈ u_ws RX5 TX5 2, w ∈ wsX5_closePlace := by decide +kernel
  have fl15 := hts (.fieldLink RX5 15 "SplitClasses$Row" "count" "I") (by decide +kernel)
  have fl9 := hts (.fieldLink RX5 9 "SplitClasses$Row" "sets" "[I") (by decide +kernel)
  refine lv_aload_n (pc := 0) hx hb dX5_closePlace_0 rfl (lv_at hl 0 rfl) ?_
  refine lv_dup (pc := 1) hx hb dX5_closePlace_1 rfl ?_
  refine va_get (pc := 2) (ci := 5) (C := RX5) (T := TX5) (N := 2) hx hb hts inX5 hown hK hP 0 rfl rfl 1 (by decide) fl15 (fun _ h9 => h9) rfl dX5_closePlace_2 ?_
  refine lv_iconst (v := (1 : Int32)) (pc := 5) hx hb dX5_closePlace_5 (by decide) ?_
  refine lv_isub (pc := 6) hx hb dX5_closePlace_6 ?_
  refine va_put (pc := 7) (D := D) (ci := 5) (v := .int (qc - (1 : Int32))) (ty := .int) (C := RX5) (T := TX5) (N := 2) hx hb hts inX5 tyX5 tyX5_ok nmX5 hown hK hP hD hS 0 rfl rfl 1 (by decide) fl15 (fun _ h9 => h9) rfl (by decide +kernel) rfl rfl (Nat.le_of_ble_eq_true rfl) dX5_closePlace_7 (fun H locs hP hD hS => ?_)
  have hP : va_P D vwCl (wX5_closePlace cI cZ cM cS qo qs (qc - (1 : Int32)) qf) H := hP
  have hD : va_D A (wX5_closePlace cI cZ cM cS qo qs (qc - (1 : Int32)) qf) := hD
  refine lv_iload_n (pc := 10) hx hb dX5_closePlace_10 rfl (lv_at hl 1 rfl) ?_
  refine lv_istore_n (lv' := [(2, .int p1), (0, .ref qo), (1, .int p1)]) (pc := 11) hx hb dX5_closePlace_11 rfl hl (by decide) rfl (fun ls hl => ?_)
  obtain ⟨qf_3, hL3, hF⟩ := ob1_e hF
  have ex3 : ∀ (H : Heap) (locs : List Loc) (ls : Array Slot), va_P D vwCl (wX5_closePlace cI cZ cM cS qo qs (qc - (1 : Int32)) qf_3) H → va_D A (wX5_closePlace cI cZ cM cS qo qs (qc - (1 : Int32)) qf_3) → va_S A s.heap H locs → lv_has ls 3 [] → W p l e (zRm 0 0) s m args below meth c H locs 0 0 Q (F0 m 40 ls []) := by
    intro H locs ls hP hD hS hl
    cases hF
    exact hRet _ _ _ _ dX5_closePlace_40 hP hD hS
  have lp3 : ∀ (n : Nat) (x2_2 : Int32) (qf_2 : (Nat → Int32)) (H : Heap) (locs : List Loc) (ls : Array Slot), olp (fX5_closePlace_s12 qc) n (x2_2, qf_2) = some qf_3 → va_P D vwCl (wX5_closePlace cI cZ cM cS qo qs (qc - (1 : Int32)) qf_2) H → va_D A (wX5_closePlace cI cZ cM cS qo qs (qc - (1 : Int32)) qf_2) → va_S A s.heap H locs → lv_has ls 3 [(2, .int x2_2), (0, .ref qo)] → W p l e (zRm 0 0) s m args below meth c H locs 0 0 Q (F0 m 12 ls []) := by
    intro n
    induction n with
    | zero => intro x2_2 qf_2 H locs ls hL; exact olp_0 hL
    | succ n ih =>
      intro x2_2 qf_2 H locs ls hL3 hP hD hS hl
      obtain ⟨z, hz3, hL3⟩ := olp_e hL3
      have hz3 : fX5_closePlace_b12 qc x2_2 qf_2 = some z := hz3
      unfold fX5_closePlace_b12 at hz3
      refine lv_iload_n (pc := 12) hx hb dX5_closePlace_12 rfl (lv_at hl 0 rfl) ?_
      refine lv_aload_n (pc := 13) hx hb dX5_closePlace_13 rfl (lv_at hl 1 rfl) ?_
      refine va_get (pc := 14) (ci := 5) (C := RX5) (T := TX5) (N := 2) hx hb hts inX5 hown hK hP 0 rfl rfl 1 (by decide) fl15 (fun _ h9 => h9) rfl dX5_closePlace_14 ?_
      refine lv_icmp_ge (pc := 17) (tgt := 40) hx hb dX5_closePlace_17 (by decide) (fun hc => ?_) (fun hc => ?_)
      · have hz3 := oif_t hz3 hc
        have hE := olp_r hz3 hL3
        cases hE
        exact ex3 _ _ _ hP hD hS (lv_sub hl [] rfl)
      · have hz3 := oif_f hz3 hc
        refine lv_aload_n (pc := 20) hx hb dX5_closePlace_20 rfl (lv_at hl 1 rfl) ?_
        refine va_get (pc := 21) (ci := 5) (C := RX5) (T := TX5) (N := 2) hx hb hts inX5 hown hK hP 0 rfl rfl 0 (by decide) fl9 (fun _ h9 => h9) rfl dX5_closePlace_21 ?_
        refine lv_iload_n (pc := 24) hx hb dX5_closePlace_24 rfl (lv_at hl 0 rfl) ?_
        refine lv_aload_n (pc := 25) hx hb dX5_closePlace_25 rfl (lv_at hl 1 rfl) ?_
        refine va_get (pc := 26) (ci := 5) (C := RX5) (T := TX5) (N := 2) hx hb hts inX5 hown hK hP 0 rfl rfl 0 (by decide) fl9 (fun _ h9 => h9) rfl dX5_closePlace_26 ?_
        refine lv_iload_n (pc := 29) hx hb dX5_closePlace_29 rfl (lv_at hl 0 rfl) ?_
        refine lv_iconst (v := (1 : Int32)) (pc := 30) hx hb dX5_closePlace_30 (by decide) ?_
        refine lv_iadd (pc := 31) hx hb dX5_closePlace_31 ?_
        obtain ⟨hg4, hz3⟩ := ogd_e hz3
        refine va_iald (pc := 32) hx hb hK hP 1 0 rfl rfl hg4 dX5_closePlace_32 ?_
        obtain ⟨hg5, hz3⟩ := ogd_e hz3
        refine va_iast (pc := 33) hx hb hK hP hD hS 1 0 rfl rfl hg5 dX5_closePlace_33 (fun H locs hP hD hS => ?_)
        have hP : va_P D vwCl (wX5_closePlace cI cZ cM cS qo qs (qc - (1 : Int32)) (upd qf_2 (Int32.toNatClampNeg x2_2) (qf_2 (Int32.toNatClampNeg (x2_2 + (1 : Int32)))))) H := hP
        have hD : va_D A (wX5_closePlace cI cZ cM cS qo qs (qc - (1 : Int32)) (upd qf_2 (Int32.toNatClampNeg x2_2) (qf_2 (Int32.toNatClampNeg (x2_2 + (1 : Int32)))))) := hD
        refine lv_iinc (v := (x2_2 + (1 : Int32))) (lv' := [(2, .int (x2_2 + (1 : Int32))), (0, .ref qo)]) (pc := 34) hx hb dX5_closePlace_34 hl (k := 0) rfl rfl (by decide) rfl (fun ls hl => ?_)
        refine lv_goto (pc := 37) (tgt := 12) hx hb dX5_closePlace_37 (by decide) ?_
        exact ih _ _ _ _ _ (olp_l hz3 hL3) hP hD hS (lv_sub hl [0, 1] rfl)
  exact lp3 oFu _ _ _ _ _ hL3 hP hD hS (lv_sub hl [0, 1] rfl)
def fX5_cutBy_b7 (p1 : Int32) (x2_2 : Int32) (qc_3 : Int32) (qf_3 : (Nat → Int32)) : Option ((Int32 × Int32 × (Nat → Int32)) ⊕ (Int32 × (Nat → Int32))) := (if x2_2 < (0 : Int32) then (some (.inr (qc_3, qf_3))) else (ogd x2_2 12 (ogd x2_2 12 (onm ((qf_3 (Int32.toNatClampNeg x2_2)) &&& (p1 ^^^ (-1 : Int32))) (fun x4_2 => (if ((qf_3 (Int32.toNatClampNeg x2_2)) &&& p1) = (0 : Int32) then (some (.inl ((x2_2 + (-1 : Int32)), qc_3, qf_3))) else (if x4_2 = (0 : Int32) then (some (.inl ((x2_2 + (-1 : Int32)), qc_3, qf_3))) else (if (12 : Int32) ≤ qc_3 then (some (.inl ((x2_2 + (-1 : Int32)), qc_3, qf_3))) else (ob2 (fX5_openPlace x2_2 qc_3 qf_3) (fun qc_5 qf_5 => (ogd x2_2 12 (ogd (x2_2 + (1 : Int32)) 12 (some (.inl ((x2_2 + (-1 : Int32)), qc_5, (upd (upd qf_5 (Int32.toNatClampNeg x2_2) ((qf_3 (Int32.toNatClampNeg x2_2)) &&& p1)) (Int32.toNatClampNeg (x2_2 + (1 : Int32))) x4_2))))))))))))))))
def fX5_cutBy_s7 (p1 : Int32) (sg_ : Int32 × Int32 × (Nat → Int32)) : Option ((Int32 × Int32 × (Nat → Int32)) ⊕ (Int32 × (Nat → Int32))) := fX5_cutBy_b7 p1 sg_.1 sg_.2.1 sg_.2.2
def fX5_cutBy (p1 : Int32) (qc : Int32) (qf : (Nat → Int32)) : Option (Int32 × (Nat → Int32)) := (ob2 (olp (fX5_cutBy_s7 p1) oFu ((qc - (1 : Int32)), qc, qf)) (fun qc_4 qf_4 => (some (qc_4, qf_4))))
abbrev wX5_cutBy (cI cZ cM cS : ClassId) (qo qs : Nat) (qc : Int32) (qf : (Nat → Int32)) : va_W := [(qo, .inr (5, [.ref qs, .int qc])), (qs, .inl (cI, 12, .inl qf))]
set_option maxHeartbeats 4000000 in
set_option maxRecDepth 100000 in
theorem tX5_cutBy (l : Launch) (D : va_G) (cI cZ cM cS : ClassId) (qo qs : Nat) (qc : Int32) (qf : (Nat → Int32)) (p1 : Int32) {qc' : Int32} {qf' : (Nat → Int32)} (hF : fX5_cutBy p1 qc qf = some (qc', qf')) : zCW l yX5_cutBy wsX5_cutBy (zRm 1 22) D (zTy cI cZ cM cS) [.ref qo, .int p1] (wX5_cutBy cI cZ cM cS qo qs qc qf) (wX5_cutBy cI cZ cM cS qo qs qc' qf') none := by
  unfold fX5_cutBy at hF
  refine zCW_ofv (cc := cX5_cutBy) (maxL := 5) (own := RX5) (by decide) rfl rfl (Nat.le_of_ble_eq_true rfl) (fun p e s m args below meth c Q ls A E hA hK hP hD hRet hS hl => ?_)
  refine zgen (fun H locs hP hS => ?_) hP hS
  have hl : lv_has ls 5 [(0, .ref qo), (1, .int p1)] := hl
  obtain ⟨hx, hb, hml, hown, hts⟩ := id E
  have inX5 : ∀ w ∈ u_ws RX5 TX5 2, w ∈ wsX5_cutBy := by decide +kernel
  have fl15 := hts (.fieldLink RX5 15 "SplitClasses$Row" "count" "I") (by decide +kernel)
  have fl9 := hts (.fieldLink RX5 9 "SplitClasses$Row" "sets" "[I") (by decide +kernel)
  refine lv_aload_n (pc := 0) hx hb dX5_cutBy_0 rfl (lv_at hl 0 rfl) ?_
  refine va_get (pc := 1) (ci := 5) (C := RX5) (T := TX5) (N := 2) hx hb hts inX5 hown hK hP 0 rfl rfl 1 (by decide) fl15 (fun _ h9 => h9) rfl dX5_cutBy_1 ?_
  refine lv_iconst (v := (1 : Int32)) (pc := 4) hx hb dX5_cutBy_4 (by decide) ?_
  refine lv_isub (pc := 5) hx hb dX5_cutBy_5 ?_
  refine lv_istore_n (lv' := [(2, .int (qc - (1 : Int32))), (0, .ref qo), (1, .int p1)]) (pc := 6) hx hb dX5_cutBy_6 rfl hl (by decide) rfl (fun ls hl => ?_)
  obtain ⟨qc_4, qf_4, hL6, hF⟩ := ob2_e hF
  have ex6 : ∀ (H : Heap) (locs : List Loc) (ls : Array Slot), va_P D vwCl (wX5_cutBy cI cZ cM cS qo qs qc_4 qf_4) H → va_D A (wX5_cutBy cI cZ cM cS qo qs qc_4 qf_4) → va_S A s.heap H locs → lv_has ls 5 [] → W p l e (zRm 1 22) s m args below meth c H locs 0 0 Q (F0 m 78 ls []) := by
    intro H locs ls hP hD hS hl
    cases hF
    exact hRet _ _ _ _ dX5_cutBy_78 hP hD hS
  have lp6 : ∀ (n : Nat) (x2_2 : Int32) (qc_3 : Int32) (qf_3 : (Nat → Int32)) (H : Heap) (locs : List Loc) (ls : Array Slot), olp (fX5_cutBy_s7 p1) n (x2_2, qc_3, qf_3) = some (qc_4, qf_4) → va_P D vwCl (wX5_cutBy cI cZ cM cS qo qs qc_3 qf_3) H → va_D A (wX5_cutBy cI cZ cM cS qo qs qc_3 qf_3) → va_S A s.heap H locs → lv_has ls 5 [(2, .int x2_2), (0, .ref qo), (1, .int p1)] → W p l e (zRm 1 22) s m args below meth c H locs 0 0 Q (F0 m 7 ls []) := by
    intro n
    induction n with
    | zero => intro x2_2 qc_3 qf_3 H locs ls hL; exact olp_0 hL
    | succ n ih =>
      intro x2_2 qc_3 qf_3 H locs ls hL6 hP hD hS hl
      obtain ⟨z, hz6, hL6⟩ := olp_e hL6
      have hz6 : fX5_cutBy_b7 p1 x2_2 qc_3 qf_3 = some z := hz6
      unfold fX5_cutBy_b7 at hz6
      refine lv_iload_n (pc := 7) hx hb dX5_cutBy_7 rfl (lv_at hl 0 rfl) ?_
      refine lv_if_lt (pc := 8) (tgt := 78) hx hb dX5_cutBy_8 (by decide) (fun hc => ?_) (fun hc => ?_)
      · have hz6 := oif_t hz6 hc
        have hE := olp_r hz6 hL6
        cases hE
        exact ex6 _ _ _ hP hD hS (lv_sub hl [] rfl)
      · have hz6 := oif_f hz6 hc
        refine lv_aload_n (pc := 11) hx hb dX5_cutBy_11 rfl (lv_at hl 1 rfl) ?_
        refine va_get (pc := 12) (ci := 5) (C := RX5) (T := TX5) (N := 2) hx hb hts inX5 hown hK hP 0 rfl rfl 0 (by decide) fl9 (fun _ h9 => h9) rfl dX5_cutBy_12 ?_
        refine lv_iload_n (pc := 15) hx hb dX5_cutBy_15 rfl (lv_at hl 0 rfl) ?_
        obtain ⟨hg7, hz6⟩ := ogd_e hz6
        refine va_iald (pc := 16) hx hb hK hP 1 0 rfl rfl hg7 dX5_cutBy_16 ?_
        refine lv_iload_n (pc := 17) hx hb dX5_cutBy_17 rfl (lv_at hl 2 rfl) ?_
        refine lv_iand (pc := 18) hx hb dX5_cutBy_18 ?_
        refine lv_istore_n (lv' := [(3, .int ((qf_3 (Int32.toNatClampNeg x2_2)) &&& p1)), (2, .int x2_2), (0, .ref qo), (1, .int p1)]) (pc := 19) hx hb dX5_cutBy_19 rfl hl (by decide) rfl (fun ls hl => ?_)
        refine lv_aload_n (pc := 20) hx hb dX5_cutBy_20 rfl (lv_at hl 2 rfl) ?_
        refine va_get (pc := 21) (ci := 5) (C := RX5) (T := TX5) (N := 2) hx hb hts inX5 hown hK hP 0 rfl rfl 0 (by decide) fl9 (fun _ h9 => h9) rfl dX5_cutBy_21 ?_
        refine lv_iload_n (pc := 24) hx hb dX5_cutBy_24 rfl (lv_at hl 1 rfl) ?_
        obtain ⟨hg8, hz6⟩ := ogd_e hz6
        refine va_iald (pc := 25) hx hb hK hP 1 0 rfl rfl hg8 dX5_cutBy_25 ?_
        refine lv_iload_n (pc := 26) hx hb dX5_cutBy_26 rfl (lv_at hl 3 rfl) ?_
        refine lv_iconst (v := (-1 : Int32)) (pc := 27) hx hb dX5_cutBy_27 (by decide) ?_
        refine lv_ixor (pc := 28) hx hb dX5_cutBy_28 ?_
        refine lv_iand (pc := 29) hx hb dX5_cutBy_29 ?_
        refine lv_topi (fun x4_2 ex4_2 => ?_)
        have hz6 := onm_e hz6 x4_2 ex4_2
        refine lv_istore (lv' := [(4, .int x4_2), (3, .int ((qf_3 (Int32.toNatClampNeg x2_2)) &&& p1)), (2, .int x2_2), (0, .ref qo), (1, .int p1)]) (pc := 30) hx hb dX5_cutBy_30 hl (by decide) rfl (fun ls hl => ?_)
        refine lv_iload_n (pc := 32) hx hb dX5_cutBy_32 rfl (lv_at hl 1 rfl) ?_
        refine lv_if_eq (pc := 33) (tgt := 72) hx hb dX5_cutBy_33 (by decide) (fun hc => ?_) (fun hc => ?_)
        · have hz6 := oif_t hz6 hc
          refine lv_iinc (v := (x2_2 + (-1 : Int32))) (lv' := [(2, .int (x2_2 + (-1 : Int32))), (4, .int x4_2), (3, .int ((qf_3 (Int32.toNatClampNeg x2_2)) &&& p1)), (0, .ref qo), (1, .int p1)]) (pc := 72) hx hb dX5_cutBy_72 hl (k := 2) rfl rfl (by decide) rfl (fun ls hl => ?_)
          refine lv_goto (pc := 75) (tgt := 7) hx hb dX5_cutBy_75 (by decide) ?_
          exact ih _ _ _ _ _ _ (olp_l hz6 hL6) hP hD hS (lv_sub hl [0, 3, 4] rfl)
        · have hz6 := oif_f hz6 hc
          refine lv_iload (pc := 36) hx hb dX5_cutBy_36 (lv_at hl 0 rfl) ?_
          refine lv_if_eq (pc := 38) (tgt := 72) hx hb dX5_cutBy_38 (by decide) (fun hc => ?_) (fun hc => ?_)
          · have hz6 := oif_t hz6 hc
            refine lv_iinc (v := (x2_2 + (-1 : Int32))) (lv' := [(2, .int (x2_2 + (-1 : Int32))), (4, .int x4_2), (3, .int ((qf_3 (Int32.toNatClampNeg x2_2)) &&& p1)), (0, .ref qo), (1, .int p1)]) (pc := 72) hx hb dX5_cutBy_72 hl (k := 2) rfl rfl (by decide) rfl (fun ls hl => ?_)
            refine lv_goto (pc := 75) (tgt := 7) hx hb dX5_cutBy_75 (by decide) ?_
            exact ih _ _ _ _ _ _ (olp_l hz6 hL6) hP hD hS (lv_sub hl [0, 3, 4] rfl)
          · have hz6 := oif_f hz6 hc
            refine lv_aload_n (pc := 41) hx hb dX5_cutBy_41 rfl (lv_at hl 3 rfl) ?_
            refine va_get (pc := 42) (ci := 5) (C := RX5) (T := TX5) (N := 2) hx hb hts inX5 hown hK hP 0 rfl rfl 1 (by decide) fl15 (fun _ h9 => h9) rfl dX5_cutBy_42 ?_
            refine lv_bipush (v := (12 : Int32)) (pc := 45) hx hb dX5_cutBy_45 (by decide) ?_
            refine lv_icmp_ge (pc := 47) (tgt := 72) hx hb dX5_cutBy_47 (by decide) (fun hc => ?_) (fun hc => ?_)
            · have hz6 := oif_t hz6 hc
              refine lv_iinc (v := (x2_2 + (-1 : Int32))) (lv' := [(2, .int (x2_2 + (-1 : Int32))), (4, .int x4_2), (3, .int ((qf_3 (Int32.toNatClampNeg x2_2)) &&& p1)), (0, .ref qo), (1, .int p1)]) (pc := 72) hx hb dX5_cutBy_72 hl (k := 2) rfl rfl (by decide) rfl (fun ls hl => ?_)
              refine lv_goto (pc := 75) (tgt := 7) hx hb dX5_cutBy_75 (by decide) ?_
              exact ih _ _ _ _ _ _ (olp_l hz6 hL6) hP hD hS (lv_sub hl [0, 3, 4] rfl)
            · have hz6 := oif_f hz6 hc
              refine lv_aload_n (pc := 50) hx hb dX5_cutBy_50 rfl (lv_at hl 3 rfl) ?_
              refine lv_iload_n (pc := 51) hx hb dX5_cutBy_51 rfl (lv_at hl 2 rfl) ?_
              obtain ⟨qc_5, qf_5, hC9, hz6⟩ := ob2_e hz6
              refine zV (pc := 52) (As := [.int x2_2]) (rest := []) (wr := []) (w2 := (wX5_cutBy cI cZ cM cS qo qs qc_5 qf_5)) E (tX5_openPlace l D cI cZ cM cS qo qs qc_3 qf_3 x2_2 hC9) 1 gX5_cutBy_X5_openPlace rfl rfl rfl (by decide +kernel) ⟨Nat.le_of_ble_eq_true rfl, Nat.le_of_ble_eq_true rfl⟩ hK hP hD hS hA [0, 1] [] [0, 1] (by decide) rfl rfl (by decide) (by decide) rfl (by decide) 0 5 rfl rfl rfl rfl hl.1 rfl (Nat.le_of_ble_eq_true rfl) dX5_cutBy_52 ⟨Nat.zero_le _, Nat.zero_le _⟩ (fun H locs hP hD hS => ?_)
              refine W.eq (g2 := F0 m 55 ls []) rfl ?_
              refine lv_aload_n (pc := 55) hx hb dX5_cutBy_55 rfl (lv_at hl 3 rfl) ?_
              refine va_get (pc := 56) (ci := 5) (C := RX5) (T := TX5) (N := 2) hx hb hts inX5 hown hK hP 0 rfl rfl 0 (by decide) fl9 (fun _ h9 => h9) rfl dX5_cutBy_56 ?_
              refine lv_iload_n (pc := 59) hx hb dX5_cutBy_59 rfl (lv_at hl 2 rfl) ?_
              refine lv_iload_n (pc := 60) hx hb dX5_cutBy_60 rfl (lv_at hl 1 rfl) ?_
              obtain ⟨hg10, hz6⟩ := ogd_e hz6
              refine va_iast (pc := 61) hx hb hK hP hD hS 1 0 rfl rfl hg10 dX5_cutBy_61 (fun H locs hP hD hS => ?_)
              have hP : va_P D vwCl (wX5_cutBy cI cZ cM cS qo qs qc_5 (upd qf_5 (Int32.toNatClampNeg x2_2) ((qf_3 (Int32.toNatClampNeg x2_2)) &&& p1))) H := hP
              have hD : va_D A (wX5_cutBy cI cZ cM cS qo qs qc_5 (upd qf_5 (Int32.toNatClampNeg x2_2) ((qf_3 (Int32.toNatClampNeg x2_2)) &&& p1))) := hD
              refine lv_aload_n (pc := 62) hx hb dX5_cutBy_62 rfl (lv_at hl 3 rfl) ?_
              refine va_get (pc := 63) (ci := 5) (C := RX5) (T := TX5) (N := 2) hx hb hts inX5 hown hK hP 0 rfl rfl 0 (by decide) fl9 (fun _ h9 => h9) rfl dX5_cutBy_63 ?_
              refine lv_iload_n (pc := 66) hx hb dX5_cutBy_66 rfl (lv_at hl 2 rfl) ?_
              refine lv_iconst (v := (1 : Int32)) (pc := 67) hx hb dX5_cutBy_67 (by decide) ?_
              refine lv_iadd (pc := 68) hx hb dX5_cutBy_68 ?_
              refine lv_iload (pc := 69) hx hb dX5_cutBy_69 (lv_at hl 0 rfl) ?_
              obtain ⟨hg11, hz6⟩ := ogd_e hz6
              refine va_iast (pc := 71) hx hb hK hP hD hS 1 0 rfl rfl hg11 dX5_cutBy_71 (fun H locs hP hD hS => ?_)
              have hP : va_P D vwCl (wX5_cutBy cI cZ cM cS qo qs qc_5 (upd (upd qf_5 (Int32.toNatClampNeg x2_2) ((qf_3 (Int32.toNatClampNeg x2_2)) &&& p1)) (Int32.toNatClampNeg (x2_2 + (1 : Int32))) x4_2)) H := hP
              have hD : va_D A (wX5_cutBy cI cZ cM cS qo qs qc_5 (upd (upd qf_5 (Int32.toNatClampNeg x2_2) ((qf_3 (Int32.toNatClampNeg x2_2)) &&& p1)) (Int32.toNatClampNeg (x2_2 + (1 : Int32))) x4_2)) := hD
              refine lv_iinc (v := (x2_2 + (-1 : Int32))) (lv' := [(2, .int (x2_2 + (-1 : Int32))), (4, .int x4_2), (3, .int ((qf_3 (Int32.toNatClampNeg x2_2)) &&& p1)), (0, .ref qo), (1, .int p1)]) (pc := 72) hx hb dX5_cutBy_72 hl (k := 2) rfl rfl (by decide) rfl (fun ls hl => ?_)
              refine lv_goto (pc := 75) (tgt := 7) hx hb dX5_cutBy_75 (by decide) ?_
              exact ih _ _ _ _ _ _ (olp_l hz6 hL6) hP hD hS (lv_sub hl [0, 3, 4] rfl)
  exact lp6 oFu _ _ _ _ _ _ hL6 hP hD hS (lv_sub hl [0, 1, 2] rfl)
def fX5_mergeWithNext (p1 : Int32) (qc : Int32) (qf : (Nat → Int32)) : Option (Int32 × (Nat → Int32)) := (ob1 (fX5_hasPlace p1 qc qf) (fun r_1 => (if r_1 = (0 : Int32) then (some (qc, qf)) else (if (qc - (1 : Int32)) ≤ p1 then (some (qc, qf)) else (ogd p1 12 (ogd (p1 + (1 : Int32)) 12 (onm ((qf (Int32.toNatClampNeg p1)) ||| (qf (Int32.toNatClampNeg (p1 + (1 : Int32))))) (fun x2_1 => (ob2 (fX5_closePlace p1 qc qf) (fun qc_1 qf_1 => (ogd p1 12 (some (qc_1, (upd qf_1 (Int32.toNatClampNeg p1) x2_1))))))))))))))
abbrev wX5_mergeWithNext (cI cZ cM cS : ClassId) (qo qs : Nat) (qc : Int32) (qf : (Nat → Int32)) : va_W := [(qo, .inr (5, [.ref qs, .int qc])), (qs, .inl (cI, 12, .inl qf))]
set_option maxHeartbeats 4000000 in
set_option maxRecDepth 100000 in
theorem tX5_mergeWithNext (l : Launch) (D : va_G) (cI cZ cM cS : ClassId) (qo qs : Nat) (qc : Int32) (qf : (Nat → Int32)) (p1 : Int32) {qc' : Int32} {qf' : (Nat → Int32)} (hF : fX5_mergeWithNext p1 qc qf = some (qc', qf')) : zCW l yX5_mergeWithNext wsX5_mergeWithNext (zRm 1 22) D (zTy cI cZ cM cS) [.ref qo, .int p1] (wX5_mergeWithNext cI cZ cM cS qo qs qc qf) (wX5_mergeWithNext cI cZ cM cS qo qs qc' qf') none := by
  unfold fX5_mergeWithNext at hF
  refine zCW_ofv (cc := cX5_mergeWithNext) (maxL := 3) (own := RX5) (by decide) rfl rfl (Nat.le_of_ble_eq_true rfl) (fun p e s m args below meth c Q ls A E hA hK hP hD hRet hS hl => ?_)
  refine zgen (fun H locs hP hS => ?_) hP hS
  have hl : lv_has ls 3 [(0, .ref qo), (1, .int p1)] := hl
  obtain ⟨hx, hb, hml, hown, hts⟩ := id E
  have inX5 : ∀ w ∈ u_ws RX5 TX5 2, w ∈ wsX5_mergeWithNext := by decide +kernel
  have fl15 := hts (.fieldLink RX5 15 "SplitClasses$Row" "count" "I") (by decide +kernel)
  have fl9 := hts (.fieldLink RX5 9 "SplitClasses$Row" "sets" "[I") (by decide +kernel)
  refine lv_aload_n (pc := 0) hx hb dX5_mergeWithNext_0 rfl (lv_at hl 0 rfl) ?_
  refine lv_iload_n (pc := 1) hx hb dX5_mergeWithNext_1 rfl (lv_at hl 1 rfl) ?_
  obtain ⟨r_1, hC1, hF⟩ := ob1_e hF
  refine zVr (pc := 2) (As := [.int p1]) (rest := []) E (tX5_hasPlace l D cI cZ cM cS qo qs qc qf p1 hC1) 1 gX5_mergeWithNext_X5_hasPlace rfl rfl rfl (by decide +kernel) ⟨Nat.le_of_ble_eq_true rfl, Nat.le_of_ble_eq_true rfl⟩ hK hP [0, 1] rfl 0 5 rfl rfl rfl rfl hl.1 rfl (Nat.le_of_ble_eq_true rfl) dX5_mergeWithNext_2 ⟨Nat.zero_le _, Nat.zero_le _⟩ ?_
  refine lv_if_eq (pc := 5) (tgt := 46) hx hb dX5_mergeWithNext_5 (by decide) (fun hc => ?_) (fun hc => ?_)
  · have hF := oif_t hF hc
    cases hF
    exact hRet _ _ _ _ dX5_mergeWithNext_46 hP hD hS
  · have hF := oif_f hF hc
    refine lv_iload_n (pc := 8) hx hb dX5_mergeWithNext_8 rfl (lv_at hl 1 rfl) ?_
    refine lv_aload_n (pc := 9) hx hb dX5_mergeWithNext_9 rfl (lv_at hl 0 rfl) ?_
    refine va_get (pc := 10) (ci := 5) (C := RX5) (T := TX5) (N := 2) hx hb hts inX5 hown hK hP 0 rfl rfl 1 (by decide) fl15 (fun _ h9 => h9) rfl dX5_mergeWithNext_10 ?_
    refine lv_iconst (v := (1 : Int32)) (pc := 13) hx hb dX5_mergeWithNext_13 (by decide) ?_
    refine lv_isub (pc := 14) hx hb dX5_mergeWithNext_14 ?_
    refine lv_icmp_ge (pc := 15) (tgt := 46) hx hb dX5_mergeWithNext_15 (by decide) (fun hc => ?_) (fun hc => ?_)
    · have hF := oif_t hF hc
      cases hF
      exact hRet _ _ _ _ dX5_mergeWithNext_46 hP hD hS
    · have hF := oif_f hF hc
      refine lv_aload_n (pc := 18) hx hb dX5_mergeWithNext_18 rfl (lv_at hl 0 rfl) ?_
      refine va_get (pc := 19) (ci := 5) (C := RX5) (T := TX5) (N := 2) hx hb hts inX5 hown hK hP 0 rfl rfl 0 (by decide) fl9 (fun _ h9 => h9) rfl dX5_mergeWithNext_19 ?_
      refine lv_iload_n (pc := 22) hx hb dX5_mergeWithNext_22 rfl (lv_at hl 1 rfl) ?_
      obtain ⟨hg2, hF⟩ := ogd_e hF
      refine va_iald (pc := 23) hx hb hK hP 1 0 rfl rfl hg2 dX5_mergeWithNext_23 ?_
      refine lv_aload_n (pc := 24) hx hb dX5_mergeWithNext_24 rfl (lv_at hl 0 rfl) ?_
      refine va_get (pc := 25) (ci := 5) (C := RX5) (T := TX5) (N := 2) hx hb hts inX5 hown hK hP 0 rfl rfl 0 (by decide) fl9 (fun _ h9 => h9) rfl dX5_mergeWithNext_25 ?_
      refine lv_iload_n (pc := 28) hx hb dX5_mergeWithNext_28 rfl (lv_at hl 1 rfl) ?_
      refine lv_iconst (v := (1 : Int32)) (pc := 29) hx hb dX5_mergeWithNext_29 (by decide) ?_
      refine lv_iadd (pc := 30) hx hb dX5_mergeWithNext_30 ?_
      obtain ⟨hg3, hF⟩ := ogd_e hF
      refine va_iald (pc := 31) hx hb hK hP 1 0 rfl rfl hg3 dX5_mergeWithNext_31 ?_
      refine lv_ior (pc := 32) hx hb dX5_mergeWithNext_32 ?_
      refine lv_topi (fun x2_1 ex2_1 => ?_)
      have hF := onm_e hF x2_1 ex2_1
      refine lv_istore_n (lv' := [(2, .int x2_1), (0, .ref qo), (1, .int p1)]) (pc := 33) hx hb dX5_mergeWithNext_33 rfl hl (by decide) rfl (fun ls hl => ?_)
      refine lv_aload_n (pc := 34) hx hb dX5_mergeWithNext_34 rfl (lv_at hl 1 rfl) ?_
      refine lv_iload_n (pc := 35) hx hb dX5_mergeWithNext_35 rfl (lv_at hl 2 rfl) ?_
      obtain ⟨qc_1, qf_1, hC4, hF⟩ := ob2_e hF
      refine zV (pc := 36) (As := [.int p1]) (rest := []) (wr := []) (w2 := (wX5_mergeWithNext cI cZ cM cS qo qs qc_1 qf_1)) E (tX5_closePlace l D cI cZ cM cS qo qs qc qf p1 hC4) 1 gX5_mergeWithNext_X5_closePlace rfl rfl rfl (by decide +kernel) ⟨Nat.le_of_ble_eq_true rfl, Nat.le_of_ble_eq_true rfl⟩ hK hP hD hS hA [0, 1] [] [0, 1] (by decide) rfl rfl (by decide) (by decide) rfl (by decide) 0 5 rfl rfl rfl rfl hl.1 rfl (Nat.le_of_ble_eq_true rfl) dX5_mergeWithNext_36 ⟨Nat.zero_le _, Nat.zero_le _⟩ (fun H locs hP hD hS => ?_)
      refine W.eq (g2 := F0 m 39 ls []) rfl ?_
      refine lv_aload_n (pc := 39) hx hb dX5_mergeWithNext_39 rfl (lv_at hl 1 rfl) ?_
      refine va_get (pc := 40) (ci := 5) (C := RX5) (T := TX5) (N := 2) hx hb hts inX5 hown hK hP 0 rfl rfl 0 (by decide) fl9 (fun _ h9 => h9) rfl dX5_mergeWithNext_40 ?_
      refine lv_iload_n (pc := 43) hx hb dX5_mergeWithNext_43 rfl (lv_at hl 2 rfl) ?_
      refine lv_iload_n (pc := 44) hx hb dX5_mergeWithNext_44 rfl (lv_at hl 0 rfl) ?_
      obtain ⟨hg5, hF⟩ := ogd_e hF
      refine va_iast (pc := 45) hx hb hK hP hD hS 1 0 rfl rfl hg5 dX5_mergeWithNext_45 (fun H locs hP hD hS => ?_)
      have hP : va_P D vwCl (wX5_mergeWithNext cI cZ cM cS qo qs qc_1 (upd qf_1 (Int32.toNatClampNeg p1) x2_1)) H := hP
      have hD : va_D A (wX5_mergeWithNext cI cZ cM cS qo qs qc_1 (upd qf_1 (Int32.toNatClampNeg p1) x2_1)) := hD
      cases hF
      exact hRet _ _ _ _ dX5_mergeWithNext_46 hP hD hS
