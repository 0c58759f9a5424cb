def fX9_columnSet_b4 (st : (Nat → Int32)) (p1 : Int32) (x3_2 : Int32) (x2_2 : Int32) : Option ((Int32 × Int32) ⊕ (Int32)) := (if (st 0) ≤ x3_2 then (some (.inr x2_2)) else (ogd ((4 : Int32) + x3_2) 76 (ob1 (fX9_has (st (Int32.toNatClampNeg ((4 : Int32) + x3_2))) p1) (fun r_2 => (if r_2 = (0 : Int32) then (some (.inl ((x3_2 + (1 : Int32)), (x2_2 ||| (0 : Int32))))) else (some (.inl ((x3_2 + (1 : Int32)), (x2_2 ||| ((1 : Int32) <<< (x3_2 &&& 31)))))))))))
def fX9_columnSet_s4 (st : (Nat → Int32)) (p1 : Int32) (sg_ : Int32 × Int32) : Option ((Int32 × Int32) ⊕ (Int32)) := fX9_columnSet_b4 st p1 sg_.1 sg_.2
def fX9_columnSet (p1 : Int32) (deeds : Int32) (sd : Int32) (ent : Int32) (st : (Nat → Int32)) : Option (Int32) := (ob1 (olp (fX9_columnSet_s4 st p1) oFu ((0 : Int32), (0 : Int32))) (fun x2_3 => (some x2_3)))
abbrev wX9_columnSet (cI cZ cM cS : ClassId) (mo mst mpa mim mik mbi mbk mnr mia min mas mpr mfa mme mse : Nat) (deeds : Int32) (sd : Int32) (ent : Int32) (st : (Nat → Int32)) : va_W := [(mo, .inr (9, [.ref mst, .ref mpa, .int deeds, .ref mim, .ref mik, .int sd, .ref mbi, .ref mbk, .int ent, .ref mnr, .ref mia, .ref min, .ref mas, .ref mpr, .ref mfa, .ref mme, .ref mse])), (mst, .inl (cI, 76, .inl st))]
set_option maxHeartbeats 4000000 in
set_option maxRecDepth 100000 in
theorem tX9_columnSet (l : Launch) (D : va_G) (cI cZ cM cS : ClassId) (mo mst mpa mim mik mbi mbk mnr mia min mas mpr mfa mme mse : Nat) (deeds : Int32) (sd : Int32) (ent : Int32) (st : (Nat → Int32)) (p1 : Int32) {r : Int32} (hF : fX9_columnSet p1 deeds sd ent st = some r) : zCR l yX9_columnSet wsX9_columnSet (zRm 1 21) D (zTy cI cZ cM cS) [.ref mo, .int p1] (wX9_columnSet cI cZ cM cS mo mst mpa mim mik mbi mbk mnr mia min mas mpr mfa mme mse deeds sd ent st) r := by
  unfold fX9_columnSet at hF
  refine zCR_of (cc := cX9_columnSet) (maxL := 4) (own := RX9) (by decide +kernel) rfl rfl (Nat.le_of_ble_eq_true rfl) (fun p e s m args below meth c Q ls E hK hP hRet hl => ?_)
  have hl : lv_has ls 4 [(0, .ref mo), (1, .int p1)] := hl
  obtain ⟨hx, hb, hml, hown, hts⟩ := id E
  have inX9 : ∀ w ∈ u_ws RX9 TX9 17, w ∈ wsX9_columnSet := by decide +kernel
  have fl7 := hts (.fieldLink RX9 7 "SplitClassesModel" "st" "[I") (by decide +kernel)
  refine lv_iconst (v := (0 : Int32)) (pc := 0) hx hb dX9_columnSet_0 (by decide) ?_
  refine lv_istore_n (lv' := [(2, .int (0 : Int32)), (0, .ref mo), (1, .int p1)]) (pc := 1) hx hb dX9_columnSet_1 rfl hl (by decide) rfl (fun ls hl => ?_)
  refine lv_iconst (v := (0 : Int32)) (pc := 2) hx hb dX9_columnSet_2 (by decide) ?_
  refine lv_istore_n (lv' := [(3, .int (0 : Int32)), (2, .int (0 : Int32)), (0, .ref mo), (1, .int p1)]) (pc := 3) hx hb dX9_columnSet_3 rfl hl (by decide) rfl (fun ls hl => ?_)
  obtain ⟨x2_3, hL3, hF⟩ := ob1_e hF
  have ex3 : ∀ (ls : Array Slot), lv_has ls 4 [(2, .int x2_3)] → W p l e (zRm 1 21) s m args below meth c s.heap [] 0 0 Q (F0 m 45 ls []) := by
    intro ls hl
    refine lv_iload_n (pc := 45) hx hb dX9_columnSet_45 rfl (lv_at hl 0 rfl) ?_
    cases hF
    exact hRet _ _ rfl dX9_columnSet_46
  have lp3 : ∀ (n : Nat) (x3_2 : Int32) (x2_2 : Int32) (ls : Array Slot), olp (fX9_columnSet_s4 st p1) n (x3_2, x2_2) = some x2_3 → lv_has ls 4 [(3, .int x3_2), (2, .int x2_2), (0, .ref mo), (1, .int p1)] → W p l e (zRm 1 21) s m args below meth c s.heap [] 0 0 Q (F0 m 4 ls []) := by
    intro n
    induction n with
    | zero => intro x3_2 x2_2 ls hL; exact olp_0 hL
    | succ n ih =>
      intro x3_2 x2_2 ls hL3 hl
      obtain ⟨z, hz3, hL3⟩ := olp_e hL3
      have hz3 : fX9_columnSet_b4 st p1 x3_2 x2_2 = some z := hz3
      unfold fX9_columnSet_b4 at hz3
      refine lv_iload_n (pc := 4) hx hb dX9_columnSet_4 rfl (lv_at hl 0 rfl) ?_
      refine lv_aload_n (pc := 5) hx hb dX9_columnSet_5 rfl (lv_at hl 2 rfl) ?_
      refine va_get (pc := 6) (ci := 9) (C := RX9) (T := TX9) (N := 17) hx hb hts inX9 hown hK hP 0 rfl rfl 0 (by decide) fl7 (fun _ h9 => h9) rfl dX9_columnSet_6 ?_
      refine lv_iconst (v := (0 : Int32)) (pc := 9) hx hb dX9_columnSet_9 (by decide) ?_
      refine z_iald (pc := 10) (k := 0) hx hb hK hP 1 0 rfl rfl (by decide) (by decide) dX9_columnSet_10 ?_
      refine lv_icmp_ge (pc := 11) (tgt := 45) hx hb dX9_columnSet_11 (by decide) (fun hc => ?_) (fun hc => ?_)
      · have hz3 := oif_t hz3 hc
        have hE := olp_r hz3 hL3
        cases hE
        exact ex3 _ (lv_sub hl [1] rfl)
      · have hz3 := oif_f hz3 hc
        refine lv_iload_n (pc := 14) hx hb dX9_columnSet_14 rfl (lv_at hl 1 rfl) ?_
        refine lv_aload_n (pc := 15) hx hb dX9_columnSet_15 rfl (lv_at hl 2 rfl) ?_
        refine va_get (pc := 16) (ci := 9) (C := RX9) (T := TX9) (N := 17) hx hb hts inX9 hown hK hP 0 rfl rfl 0 (by decide) fl7 (fun _ h9 => h9) rfl dX9_columnSet_16 ?_
        refine lv_iconst (v := (4 : Int32)) (pc := 19) hx hb dX9_columnSet_19 (by decide) ?_
        refine lv_iload_n (pc := 20) hx hb dX9_columnSet_20 rfl (lv_at hl 0 rfl) ?_
        refine lv_iadd (pc := 21) hx hb dX9_columnSet_21 ?_
        obtain ⟨hg4, hz3⟩ := ogd_e hz3
        refine va_iald (pc := 22) hx hb hK hP 1 0 rfl rfl hg4 dX9_columnSet_22 ?_
        refine lv_iload_n (pc := 23) hx hb dX9_columnSet_23 rfl (lv_at hl 3 rfl) ?_
        obtain ⟨r_2, hC5, hz3⟩ := ob1_e hz3
        refine zSr (pc := 24) (As := [.int (st (Int32.toNatClampNeg ((4 : Int32) + x3_2))), .int p1]) (rest := [.int x2_2]) E (tX9_has l D cI cZ cM cS (st (Int32.toNatClampNeg ((4 : Int32) + x3_2))) p1 hC5) 2 gX9_columnSet_X9_has rfl rfl rfl (by decide +kernel) ⟨Nat.le_of_ble_eq_true rfl, Nat.le_of_ble_eq_true rfl⟩ hK hP [] rfl rfl hl.1 rfl (Nat.le_of_ble_eq_true rfl) dX9_columnSet_24 ⟨Nat.zero_le _, Nat.zero_le _⟩ ?_
        refine lv_if_eq (pc := 27) (tgt := 36) hx hb dX9_columnSet_27 (by decide) (fun hc => ?_) (fun hc => ?_)
        · have hz3 := oif_t hz3 hc
          refine lv_iconst (v := (0 : Int32)) (pc := 36) hx hb dX9_columnSet_36 (by decide) ?_
          refine lv_ior (pc := 37) hx hb dX9_columnSet_37 ?_
          refine lv_istore_n (lv' := [(2, .int (x2_2 ||| (0 : Int32))), (3, .int x3_2), (0, .ref mo), (1, .int p1)]) (pc := 38) hx hb dX9_columnSet_38 rfl hl (by decide) rfl (fun ls hl => ?_)
          refine lv_iinc (v := (x3_2 + (1 : Int32))) (lv' := [(3, .int (x3_2 + (1 : Int32))), (2, .int (x2_2 ||| (0 : Int32))), (0, .ref mo), (1, .int p1)]) (pc := 39) hx hb dX9_columnSet_39 hl (k := 1) rfl rfl (by decide) rfl (fun ls hl => ?_)
          refine lv_goto (pc := 42) (tgt := 4) hx hb dX9_columnSet_42 (by decide) ?_
          exact ih _ _ _ (olp_l hz3 hL3) (lv_sub hl [0, 1, 2, 3] rfl)
        · have hz3 := oif_f hz3 hc
          refine lv_iconst (v := (1 : Int32)) (pc := 30) hx hb dX9_columnSet_30 (by decide) ?_
          refine lv_iload_n (pc := 31) hx hb dX9_columnSet_31 rfl (lv_at hl 0 rfl) ?_
          refine lv_ishl (pc := 32) hx hb dX9_columnSet_32 ?_
          refine lv_goto (pc := 33) (tgt := 37) hx hb dX9_columnSet_33 (by decide) ?_
          refine lv_ior (pc := 37) hx hb dX9_columnSet_37 ?_
          refine lv_istore_n (lv' := [(2, .int (x2_2 ||| ((1 : Int32) <<< (x3_2 &&& 31)))), (3, .int x3_2), (0, .ref mo), (1, .int p1)]) (pc := 38) hx hb dX9_columnSet_38 rfl hl (by decide) rfl (fun ls hl => ?_)
          refine lv_iinc (v := (x3_2 + (1 : Int32))) (lv' := [(3, .int (x3_2 + (1 : Int32))), (2, .int (x2_2 ||| ((1 : Int32) <<< (x3_2 &&& 31)))), (0, .ref mo), (1, .int p1)]) (pc := 39) hx hb dX9_columnSet_39 hl (k := 1) rfl rfl (by decide) rfl (fun ls hl => ?_)
          refine lv_goto (pc := 42) (tgt := 4) hx hb dX9_columnSet_42 (by decide) ?_
          exact ih _ _ _ (olp_l hz3 hL3) (lv_sub hl [0, 1, 2, 3] rfl)
  exact lp3 oFu _ _ _ hL3 (lv_sub hl [0, 1, 2, 3] rfl)
def fX9_leadsTo_b5 (st : (Nat → Int32)) (p1 : Int32) (p2 : Int32) (x4_2 : Int32) (x3_2 : Int32) : Option ((Int32 × Int32) ⊕ (Int32)) := (if (st 0) ≤ x4_2 then (some (.inr x3_2)) else (ogd (((28 : Int32) + ((3 : Int32) * x4_2)) + p1) 76 (ogd ((64 : Int32) + (st (Int32.toNatClampNeg (((28 : Int32) + ((3 : Int32) * x4_2)) + p1)))) 76 (if (st (Int32.toNatClampNeg ((64 : Int32) + (st (Int32.toNatClampNeg (((28 : Int32) + ((3 : Int32) * x4_2)) + p1)))))) = p2 then (some (.inl ((x4_2 + (1 : Int32)), (x3_2 ||| ((1 : Int32) <<< (x4_2 &&& 31)))))) else (some (.inl ((x4_2 + (1 : Int32)), (x3_2 ||| (0 : Int32)))))))))
def fX9_leadsTo_s5 (st : (Nat → Int32)) (p1 : Int32) (p2 : Int32) (sg_ : Int32 × Int32) : Option ((Int32 × Int32) ⊕ (Int32)) := fX9_leadsTo_b5 st p1 p2 sg_.1 sg_.2
def fX9_leadsTo (p1 : Int32) (p2 : Int32) (deeds : Int32) (sd : Int32) (ent : Int32) (st : (Nat → Int32)) : Option (Int32) := (ob1 (olp (fX9_leadsTo_s5 st p1 p2) oFu ((0 : Int32), (0 : Int32))) (fun x3_3 => (some x3_3)))
abbrev wX9_leadsTo (cI cZ cM cS : ClassId) (mo mst mpa mim mik mbi mbk mnr mia min mas mpr mfa mme mse : Nat) (deeds : Int32) (sd : Int32) (ent : Int32) (st : (Nat → Int32)) : va_W := [(mo, .inr (9, [.ref mst, .ref mpa, .int deeds, .ref mim, .ref mik, .int sd, .ref mbi, .ref mbk, .int ent, .ref mnr, .ref mia, .ref min, .ref mas, .ref mpr, .ref mfa, .ref mme, .ref mse])), (mst, .inl (cI, 76, .inl st))]
set_option maxHeartbeats 4000000 in
set_option maxRecDepth 100000 in
theorem tX9_leadsTo (l : Launch) (D : va_G) (cI cZ cM cS : ClassId) (mo mst mpa mim mik mbi mbk mnr mia min mas mpr mfa mme mse : Nat) (deeds : Int32) (sd : Int32) (ent : Int32) (st : (Nat → Int32)) (p1 : Int32) (p2 : Int32) {r : Int32} (hF : fX9_leadsTo p1 p2 deeds sd ent st = some r) : zCR l yX9_leadsTo wsX9_leadsTo (zRm 0 0) D (zTy cI cZ cM cS) [.ref mo, .int p1, .int p2] (wX9_leadsTo cI cZ cM cS mo mst mpa mim mik mbi mbk mnr mia min mas mpr mfa mme mse deeds sd ent st) r := by
  unfold fX9_leadsTo at hF
  refine zCR_of (cc := cX9_leadsTo) (maxL := 5) (own := RX9) (by decide +kernel) rfl rfl (Nat.le_of_ble_eq_true rfl) (fun p e s m args below meth c Q ls E hK hP hRet hl => ?_)
  have hl : lv_has ls 5 [(0, .ref mo), (1, .int p1), (2, .int p2)] := hl
  obtain ⟨hx, hb, hml, hown, hts⟩ := id E
  have inX9 : ∀ w ∈ u_ws RX9 TX9 17, w ∈ wsX9_leadsTo := by decide +kernel
  have fl7 := hts (.fieldLink RX9 7 "SplitClassesModel" "st" "[I") (by decide +kernel)
  refine lv_iconst (v := (0 : Int32)) (pc := 0) hx hb dX9_leadsTo_0 (by decide) ?_
  refine lv_istore_n (lv' := [(3, .int (0 : Int32)), (0, .ref mo), (1, .int p1), (2, .int p2)]) (pc := 1) hx hb dX9_leadsTo_1 rfl hl (by decide) rfl (fun ls hl => ?_)
  refine lv_iconst (v := (0 : Int32)) (pc := 2) hx hb dX9_leadsTo_2 (by decide) ?_
  refine lv_istore (lv' := [(4, .int (0 : Int32)), (3, .int (0 : Int32)), (0, .ref mo), (1, .int p1), (2, .int p2)]) (pc := 3) hx hb dX9_leadsTo_3 hl (by decide) rfl (fun ls hl => ?_)
  obtain ⟨x3_3, hL3, hF⟩ := ob1_e hF
  have ex3 : ∀ (ls : Array Slot), lv_has ls 5 [(3, .int x3_3)] → W p l e (zRm 0 0) s m args below meth c s.heap [] 0 0 Q (F0 m 59 ls []) := by
    intro ls hl
    refine lv_iload_n (pc := 59) hx hb dX9_leadsTo_59 rfl (lv_at hl 0 rfl) ?_
    cases hF
    exact hRet _ _ rfl dX9_leadsTo_60
  have lp3 : ∀ (n : Nat) (x4_2 : Int32) (x3_2 : Int32) (ls : Array Slot), olp (fX9_leadsTo_s5 st p1 p2) n (x4_2, x3_2) = some x3_3 → lv_has ls 5 [(4, .int x4_2), (3, .int x3_2), (0, .ref mo), (1, .int p1), (2, .int p2)] → W p l e (zRm 0 0) s m args below meth c s.heap [] 0 0 Q (F0 m 5 ls []) := by
    intro n
    induction n with
    | zero => intro x4_2 x3_2 ls hL; exact olp_0 hL
    | succ n ih =>
      intro x4_2 x3_2 ls hL3 hl
      obtain ⟨z, hz3, hL3⟩ := olp_e hL3
      have hz3 : fX9_leadsTo_b5 st p1 p2 x4_2 x3_2 = some z := hz3
      unfold fX9_leadsTo_b5 at hz3
      refine lv_iload (pc := 5) hx hb dX9_leadsTo_5 (lv_at hl 0 rfl) ?_
      refine lv_aload_n (pc := 7) hx hb dX9_leadsTo_7 rfl (lv_at hl 2 rfl) ?_
      refine va_get (pc := 8) (ci := 9) (C := RX9) (T := TX9) (N := 17) hx hb hts inX9 hown hK hP 0 rfl rfl 0 (by decide) fl7 (fun _ h9 => h9) rfl dX9_leadsTo_8 ?_
      refine lv_iconst (v := (0 : Int32)) (pc := 11) hx hb dX9_leadsTo_11 (by decide) ?_
      refine z_iald (pc := 12) (k := 0) hx hb hK hP 1 0 rfl rfl (by decide) (by decide) dX9_leadsTo_12 ?_
      refine lv_icmp_ge (pc := 13) (tgt := 59) hx hb dX9_leadsTo_13 (by decide) (fun hc => ?_) (fun hc => ?_)
      · have hz3 := oif_t hz3 hc
        have hE := olp_r hz3 hL3
        cases hE
        exact ex3 _ (lv_sub hl [1] rfl)
      · have hz3 := oif_f hz3 hc
        refine lv_iload_n (pc := 16) hx hb dX9_leadsTo_16 rfl (lv_at hl 1 rfl) ?_
        refine lv_aload_n (pc := 17) hx hb dX9_leadsTo_17 rfl (lv_at hl 2 rfl) ?_
        refine va_get (pc := 18) (ci := 9) (C := RX9) (T := TX9) (N := 17) hx hb hts inX9 hown hK hP 0 rfl rfl 0 (by decide) fl7 (fun _ h9 => h9) rfl dX9_leadsTo_18 ?_
        refine lv_bipush (v := (64 : Int32)) (pc := 21) hx hb dX9_leadsTo_21 (by decide) ?_
        refine lv_aload_n (pc := 23) hx hb dX9_leadsTo_23 rfl (lv_at hl 2 rfl) ?_
        refine va_get (pc := 24) (ci := 9) (C := RX9) (T := TX9) (N := 17) hx hb hts inX9 hown hK hP 0 rfl rfl 0 (by decide) fl7 (fun _ h9 => h9) rfl dX9_leadsTo_24 ?_
        refine lv_bipush (v := (28 : Int32)) (pc := 27) hx hb dX9_leadsTo_27 (by decide) ?_
        refine lv_iconst (v := (3 : Int32)) (pc := 29) hx hb dX9_leadsTo_29 (by decide) ?_
        refine lv_iload (pc := 30) hx hb dX9_leadsTo_30 (lv_at hl 0 rfl) ?_
        refine lv_imul (pc := 32) hx hb dX9_leadsTo_32 ?_
        refine lv_iadd (pc := 33) hx hb dX9_leadsTo_33 ?_
        refine lv_iload_n (pc := 34) hx hb dX9_leadsTo_34 rfl (lv_at hl 3 rfl) ?_
        refine lv_iadd (pc := 35) hx hb dX9_leadsTo_35 ?_
        obtain ⟨hg4, hz3⟩ := ogd_e hz3
        refine va_iald (pc := 36) hx hb hK hP 1 0 rfl rfl hg4 dX9_leadsTo_36 ?_
        refine lv_iadd (pc := 37) hx hb dX9_leadsTo_37 ?_
        obtain ⟨hg5, hz3⟩ := ogd_e hz3
        refine va_iald (pc := 38) hx hb hK hP 1 0 rfl rfl hg5 dX9_leadsTo_38 ?_
        refine lv_iload_n (pc := 39) hx hb dX9_leadsTo_39 rfl (lv_at hl 4 rfl) ?_
        refine lv_icmp_ne (pc := 40) (tgt := 50) hx hb dX9_leadsTo_40 (by decide) (fun hc => ?_) (fun hc => ?_)
        · have hz3 := oif_f hz3 hc
          refine lv_iconst (v := (0 : Int32)) (pc := 50) hx hb dX9_leadsTo_50 (by decide) ?_
          refine lv_ior (pc := 51) hx hb dX9_leadsTo_51 ?_
          refine lv_istore_n (lv' := [(3, .int (x3_2 ||| (0 : Int32))), (4, .int x4_2), (0, .ref mo), (1, .int p1), (2, .int p2)]) (pc := 52) hx hb dX9_leadsTo_52 rfl hl (by decide) rfl (fun ls hl => ?_)
          refine lv_iinc (v := (x4_2 + (1 : Int32))) (lv' := [(4, .int (x4_2 + (1 : Int32))), (3, .int (x3_2 ||| (0 : Int32))), (0, .ref mo), (1, .int p1), (2, .int p2)]) (pc := 53) hx hb dX9_leadsTo_53 hl (k := 1) rfl rfl (by decide) rfl (fun ls hl => ?_)
          refine lv_goto (pc := 56) (tgt := 5) hx hb dX9_leadsTo_56 (by decide) ?_
          exact ih _ _ _ (olp_l hz3 hL3) (lv_sub hl [0, 1, 2, 3, 4] rfl)
        · have hz3 := oif_t hz3 hc
          refine lv_iconst (v := (1 : Int32)) (pc := 43) hx hb dX9_leadsTo_43 (by decide) ?_
          refine lv_iload (pc := 44) hx hb dX9_leadsTo_44 (lv_at hl 0 rfl) ?_
          refine lv_ishl (pc := 46) hx hb dX9_leadsTo_46 ?_
          refine lv_goto (pc := 47) (tgt := 51) hx hb dX9_leadsTo_47 (by decide) ?_
          refine lv_ior (pc := 51) hx hb dX9_leadsTo_51 ?_
          refine lv_istore_n (lv' := [(3, .int (x3_2 ||| ((1 : Int32) <<< (x4_2 &&& 31)))), (4, .int x4_2), (0, .ref mo), (1, .int p1), (2, .int p2)]) (pc := 52) hx hb dX9_leadsTo_52 rfl hl (by decide) rfl (fun ls hl => ?_)
          refine lv_iinc (v := (x4_2 + (1 : Int32))) (lv' := [(4, .int (x4_2 + (1 : Int32))), (3, .int (x3_2 ||| ((1 : Int32) <<< (x4_2 &&& 31)))), (0, .ref mo), (1, .int p1), (2, .int p2)]) (pc := 53) hx hb dX9_leadsTo_53 hl (k := 1) rfl rfl (by decide) rfl (fun ls hl => ?_)
          refine lv_goto (pc := 56) (tgt := 5) hx hb dX9_leadsTo_56 (by decide) ?_
          exact ih _ _ _ (olp_l hz3 hL3) (lv_sub hl [0, 1, 2, 3, 4] rfl)
  exact lp3 oFu _ _ _ hL3 (lv_sub hl [0, 1, 2, 3, 4] rfl)
def fX9_atLeast_b18 (st : (Nat → Int32)) (r_1 : Int32) (p2 : Int32) (x5_2 : Int32) (x4_2 : Int32) : Option ((Int32 × Int32) ⊕ (Int32)) := (if (st 0) ≤ x5_2 then (some (.inr x4_2)) else (ogd ((16 : Int32) + x5_2) 76 (ob1 (fX9_sizeOf ((st (Int32.toNatClampNeg ((16 : Int32) + x5_2))) &&& r_1)) (fun r_3 => (if r_3 < p2 then (some (.inl ((x5_2 + (1 : Int32)), (x4_2 ||| (0 : Int32))))) else (some (.inl ((x5_2 + (1 : Int32)), (x4_2 ||| ((1 : Int32) <<< (x5_2 &&& 31)))))))))))
def fX9_atLeast_s18 (st : (Nat → Int32)) (r_1 : Int32) (p2 : Int32) (sg_ : Int32 × Int32) : Option ((Int32 × Int32) ⊕ (Int32)) := fX9_atLeast_b18 st r_1 p2 sg_.1 sg_.2
def fX9_atLeast (p1 : Int32) (p2 : Int32) (deeds : Int32) (sd : Int32) (ent : Int32) (st : (Nat → Int32)) : Option (Int32) := (ob1 (fX9_membersOf (64 : Int32) p1 deeds sd ent st) (fun r_1 => (ob1 (olp (fX9_atLeast_s18 st r_1 p2) oFu ((0 : Int32), (0 : Int32))) (fun x4_3 => (some x4_3)))))
abbrev wX9_atLeast (cI cZ cM cS : ClassId) (mo mst mpa mim mik mbi mbk mnr mia min mas mpr mfa mme mse : Nat) (deeds : Int32) (sd : Int32) (ent : Int32) (st : (Nat → Int32)) : va_W := [(mo, .inr (9, [.ref mst, .ref mpa, .int deeds, .ref mim, .ref mik, .int sd, .ref mbi, .ref mbk, .int ent, .ref mnr, .ref mia, .ref min, .ref mas, .ref mpr, .ref mfa, .ref mme, .ref mse])), (mst, .inl (cI, 76, .inl st))]
set_option maxHeartbeats 4000000 in
set_option maxRecDepth 100000 in
theorem tX9_atLeast (l : Launch) (D : va_G) (cI cZ cM cS : ClassId) (mo mst mpa mim mik mbi mbk mnr mia min mas mpr mfa mme mse : Nat) (deeds : Int32) (sd : Int32) (ent : Int32) (st : (Nat → Int32)) (p1 : Int32) (p2 : Int32) {r : Int32} (hF : fX9_atLeast p1 p2 deeds sd ent st = some r) : zCR l yX9_atLeast wsX9_atLeast (zRm 1 25) D (zTy cI cZ cM cS) [.ref mo, .int p1, .int p2] (wX9_atLeast cI cZ cM cS mo mst mpa mim mik mbi mbk mnr mia min mas mpr mfa mme mse deeds sd ent st) r := by
  unfold fX9_atLeast at hF
  refine zCR_of (cc := cX9_atLeast) (maxL := 6) (own := RX9) (by decide +kernel) rfl rfl (Nat.le_of_ble_eq_true rfl) (fun p e s m args below meth c Q ls E hK hP hRet hl => ?_)
  have hl : lv_has ls 6 [(0, .ref mo), (1, .int p1), (2, .int p2)] := hl
  obtain ⟨hx, hb, hml, hown, hts⟩ := id E
  have inX9 : ∀ w ∈ u_ws RX9 TX9 17, w ∈ wsX9_atLeast := by decide +kernel
  have fl7 := hts (.fieldLink RX9 7 "SplitClassesModel" "st" "[I") (by decide +kernel)
  refine lv_aload_n (pc := 0) hx hb dX9_atLeast_0 rfl (lv_at hl 0 rfl) ?_
  refine lv_aload_n (pc := 1) hx hb dX9_atLeast_1 rfl (lv_at hl 0 rfl) ?_
  refine va_get (pc := 2) (ci := 9) (C := RX9) (T := TX9) (N := 17) hx hb hts inX9 hown hK hP 0 rfl rfl 0 (by decide) fl7 (fun _ h9 => h9) rfl dX9_atLeast_2 ?_
  refine lv_bipush (v := (64 : Int32)) (pc := 5) hx hb dX9_atLeast_5 (by decide) ?_
  refine lv_iload_n (pc := 7) hx hb dX9_atLeast_7 rfl (lv_at hl 1 rfl) ?_
  obtain ⟨r_1, hC1, hF⟩ := ob1_e hF
  refine zVr (pc := 8) (As := [.ref mst, .int (64 : Int32), .int p1]) (rest := []) E (tX9_membersOf l D cI cZ cM cS mo mst mpa mim mik mbi mbk mnr mia min mas mpr mfa mme mse deeds sd ent st (64 : Int32) p1 hC1) 3 gX9_atLeast_X9_membersOf rfl rfl rfl (by decide +kernel) ⟨Nat.le_of_ble_eq_true rfl, Nat.le_of_ble_eq_true rfl⟩ hK hP [0, 1] rfl 0 9 rfl rfl rfl rfl hl.1 rfl (Nat.le_of_ble_eq_true rfl) dX9_atLeast_8 ⟨Nat.zero_le _, Nat.zero_le _⟩ ?_
  refine lv_istore_n (lv' := [(3, .int r_1), (0, .ref mo), (1, .int p1), (2, .int p2)]) (pc := 11) hx hb dX9_atLeast_11 rfl hl (by decide) rfl (fun ls hl => ?_)
  refine lv_iconst (v := (0 : Int32)) (pc := 12) hx hb dX9_atLeast_12 (by decide) ?_
  refine lv_istore (lv' := [(4, .int (0 : Int32)), (3, .int r_1), (0, .ref mo), (1, .int p1), (2, .int p2)]) (pc := 13) hx hb dX9_atLeast_13 hl (by decide) rfl (fun ls hl => ?_)
  refine lv_iconst (v := (0 : Int32)) (pc := 15) hx hb dX9_atLeast_15 (by decide) ?_
  refine lv_istore (lv' := [(5, .int (0 : Int32)), (4, .int (0 : Int32)), (3, .int r_1), (0, .ref mo), (1, .int p1), (2, .int p2)]) (pc := 16) hx hb dX9_atLeast_16 hl (by decide) rfl (fun ls hl => ?_)
  obtain ⟨x4_3, hL4, hF⟩ := ob1_e hF
  have ex4 : ∀ (ls : Array Slot), lv_has ls 6 [(4, .int x4_3)] → W p l e (zRm 1 25) s m args below meth c s.heap [] 0 0 Q (F0 m 67 ls []) := by
    intro ls hl
    refine lv_iload (pc := 67) hx hb dX9_atLeast_67 (lv_at hl 0 rfl) ?_
    cases hF
    exact hRet _ _ rfl dX9_atLeast_69
  have lp4 : ∀ (n : Nat) (x5_2 : Int32) (x4_2 : Int32) (ls : Array Slot), olp (fX9_atLeast_s18 st r_1 p2) n (x5_2, x4_2) = some x4_3 → lv_has ls 6 [(5, .int x5_2), (4, .int x4_2), (3, .int r_1), (0, .ref mo), (2, .int p2)] → W p l e (zRm 1 25) s m args below meth c s.heap [] 0 0 Q (F0 m 18 ls []) := by
    intro n
    induction n with
    | zero => intro x5_2 x4_2 ls hL; exact olp_0 hL
    | succ n ih =>
      intro x5_2 x4_2 ls hL4 hl
      obtain ⟨z, hz4, hL4⟩ := olp_e hL4
      have hz4 : fX9_atLeast_b18 st r_1 p2 x5_2 x4_2 = some z := hz4
      unfold fX9_atLeast_b18 at hz4
      refine lv_iload (pc := 18) hx hb dX9_atLeast_18 (lv_at hl 0 rfl) ?_
      refine lv_aload_n (pc := 20) hx hb dX9_atLeast_20 rfl (lv_at hl 3 rfl) ?_
      refine va_get (pc := 21) (ci := 9) (C := RX9) (T := TX9) (N := 17) hx hb hts inX9 hown hK hP 0 rfl rfl 0 (by decide) fl7 (fun _ h9 => h9) rfl dX9_atLeast_21 ?_
      refine lv_iconst (v := (0 : Int32)) (pc := 24) hx hb dX9_atLeast_24 (by decide) ?_
      refine z_iald (pc := 25) (k := 0) hx hb hK hP 1 0 rfl rfl (by decide) (by decide) dX9_atLeast_25 ?_
      refine lv_icmp_ge (pc := 26) (tgt := 67) hx hb dX9_atLeast_26 (by decide) (fun hc => ?_) (fun hc => ?_)
      · have hz4 := oif_t hz4 hc
        have hE := olp_r hz4 hL4
        cases hE
        exact ex4 _ (lv_sub hl [1] rfl)
      · have hz4 := oif_f hz4 hc
        refine lv_iload (pc := 29) hx hb dX9_atLeast_29 (lv_at hl 1 rfl) ?_
        refine lv_aload_n (pc := 31) hx hb dX9_atLeast_31 rfl (lv_at hl 3 rfl) ?_
        refine va_get (pc := 32) (ci := 9) (C := RX9) (T := TX9) (N := 17) hx hb hts inX9 hown hK hP 0 rfl rfl 0 (by decide) fl7 (fun _ h9 => h9) rfl dX9_atLeast_32 ?_
        refine lv_bipush (v := (16 : Int32)) (pc := 35) hx hb dX9_atLeast_35 (by decide) ?_
        refine lv_iload (pc := 37) hx hb dX9_atLeast_37 (lv_at hl 0 rfl) ?_
        refine lv_iadd (pc := 39) hx hb dX9_atLeast_39 ?_
        obtain ⟨hg5, hz4⟩ := ogd_e hz4
        refine va_iald (pc := 40) hx hb hK hP 1 0 rfl rfl hg5 dX9_atLeast_40 ?_
        refine lv_iload_n (pc := 41) hx hb dX9_atLeast_41 rfl (lv_at hl 2 rfl) ?_
        refine lv_iand (pc := 42) hx hb dX9_atLeast_42 ?_
        obtain ⟨r_3, hC6, hz4⟩ := ob1_e hz4
        refine zSr (pc := 43) (As := [.int ((st (Int32.toNatClampNeg ((16 : Int32) + x5_2))) &&& r_1)]) (rest := [.int x4_2]) E (tX9_sizeOf l D cI cZ cM cS ((st (Int32.toNatClampNeg ((16 : Int32) + x5_2))) &&& r_1) hC6) 1 gX9_atLeast_X9_sizeOf rfl rfl rfl (by decide +kernel) ⟨Nat.le_of_ble_eq_true rfl, Nat.le_of_ble_eq_true rfl⟩ hK hP [] rfl rfl hl.1 rfl (Nat.le_of_ble_eq_true rfl) dX9_atLeast_43 ⟨Nat.zero_le _, Nat.zero_le _⟩ ?_
        refine lv_iload_n (pc := 46) hx hb dX9_atLeast_46 rfl (lv_at hl 4 rfl) ?_
        refine lv_icmp_lt (pc := 47) (tgt := 57) hx hb dX9_atLeast_47 (by decide) (fun hc => ?_) (fun hc => ?_)
        · have hz4 := oif_t hz4 hc
          refine lv_iconst (v := (0 : Int32)) (pc := 57) hx hb dX9_atLeast_57 (by decide) ?_
          refine lv_ior (pc := 58) hx hb dX9_atLeast_58 ?_
          refine lv_istore (lv' := [(4, .int (x4_2 ||| (0 : Int32))), (5, .int x5_2), (3, .int r_1), (0, .ref mo), (2, .int p2)]) (pc := 59) hx hb dX9_atLeast_59 hl (by decide) rfl (fun ls hl => ?_)
          refine lv_iinc (v := (x5_2 + (1 : Int32))) (lv' := [(5, .int (x5_2 + (1 : Int32))), (4, .int (x4_2 ||| (0 : Int32))), (3, .int r_1), (0, .ref mo), (2, .int p2)]) (pc := 61) hx hb dX9_atLeast_61 hl (k := 1) rfl rfl (by decide) rfl (fun ls hl => ?_)
          refine lv_goto (pc := 64) (tgt := 18) hx hb dX9_atLeast_64 (by decide) ?_
          exact ih _ _ _ (olp_l hz4 hL4) (lv_sub hl [0, 1, 2, 3, 4] rfl)
        · have hz4 := oif_f hz4 hc
          refine lv_iconst (v := (1 : Int32)) (pc := 50) hx hb dX9_atLeast_50 (by decide) ?_
          refine lv_iload (pc := 51) hx hb dX9_atLeast_51 (lv_at hl 0 rfl) ?_
          refine lv_ishl (pc := 53) hx hb dX9_atLeast_53 ?_
          refine lv_goto (pc := 54) (tgt := 58) hx hb dX9_atLeast_54 (by decide) ?_
          refine lv_ior (pc := 58) hx hb dX9_atLeast_58 ?_
          refine lv_istore (lv' := [(4, .int (x4_2 ||| ((1 : Int32) <<< (x5_2 &&& 31)))), (5, .int x5_2), (3, .int r_1), (0, .ref mo), (2, .int p2)]) (pc := 59) hx hb dX9_atLeast_59 hl (by decide) rfl (fun ls hl => ?_)
          refine lv_iinc (v := (x5_2 + (1 : Int32))) (lv' := [(5, .int (x5_2 + (1 : Int32))), (4, .int (x4_2 ||| ((1 : Int32) <<< (x5_2 &&& 31)))), (3, .int r_1), (0, .ref mo), (2, .int p2)]) (pc := 61) hx hb dX9_atLeast_61 hl (k := 1) rfl rfl (by decide) rfl (fun ls hl => ?_)
          refine lv_goto (pc := 64) (tgt := 18) hx hb dX9_atLeast_64 (by decide) ?_
          exact ih _ _ _ (olp_l hz4 hL4) (lv_sub hl [0, 1, 2, 3, 4] rfl)
  exact lp4 oFu _ _ _ hL4 (lv_sub hl [0, 1, 2, 3, 5] rfl)
def fX9_askedBy (p1 : Int32) (p2 : Int32) (p3 : Int32) (deeds : Int32) (sd : Int32) (ent : Int32) (st : (Nat → Int32)) : Option (Int32) := (ob1 (fX9_classes (64 : Int32) deeds sd ent st) (fun r_1 => (if p1 = (0 : Int32) ∨ p1 = (1 : Int32) then (ob1 (fX9_isItem p2 deeds sd ent st) (fun r_2 => (if r_2 = (0 : Int32) then (some (-1000000001 : Int32)) else (some (0 : Int32))))) else (if p1 = (2 : Int32) then (ob1 (fX9_in p2 (0 : Int32) (7 : Int32)) (fun r_3 => (if r_3 = (0 : Int32) then (some (-1000000001 : Int32)) else (some (0 : Int32))))) else (if p1 = (3 : Int32) then (ob1 (fX9_in p2 (0 : Int32) ((st 1) - (1 : Int32))) (fun r_4 => (if r_4 = (0 : Int32) then (some (-1000000001 : Int32)) else (ob1 (fX9_in p3 (0 : Int32) (r_1 - (1 : Int32))) (fun r_5 => (if r_5 = (0 : Int32) then (some (-1000000001 : Int32)) else (some (0 : Int32)))))))) else (if p1 = (4 : Int32) then (some (0 : Int32)) else (if p1 = (5 : Int32) then (ob1 (fX9_in p2 (0 : Int32) (r_1 - (1 : Int32))) (fun r_6 => (if r_6 = (0 : Int32) then (some (-1000000001 : Int32)) else (ob1 (fX9_in p3 (0 : Int32) (12 : Int32)) (fun r_7 => (if r_7 = (0 : Int32) then (some (-1000000002 : Int32)) else (some (0 : Int32)))))))) else (some (-1000000002 : Int32)))))))))
abbrev wX9_askedBy (cI cZ cM cS : ClassId) (mo mst mpa mim mik mbi mbk mnr mia min mas mpr mfa mme mse : Nat) (deeds : Int32) (sd : Int32) (ent : Int32) (st : (Nat → Int32)) : va_W := [(mo, .inr (9, [.ref mst, .ref mpa, .int deeds, .ref mim, .ref mik, .int sd, .ref mbi, .ref mbk, .int ent, .ref mnr, .ref mia, .ref min, .ref mas, .ref mpr, .ref mfa, .ref mme, .ref mse])), (mst, .inl (cI, 76, .inl st))]
set_option maxHeartbeats 4000000 in
set_option maxRecDepth 100000 in
theorem tX9_askedBy (l : Launch) (D : va_G) (cI cZ cM cS : ClassId) (mo mst mpa mim mik mbi mbk mnr mia min mas mpr mfa mme mse : Nat) (deeds : Int32) (sd : Int32) (ent : Int32) (st : (Nat → Int32)) (p1 : Int32) (p2 : Int32) (p3 : Int32) {r : Int32} (hF : fX9_askedBy p1 p2 p3 deeds sd ent st = some r) : zCR l yX9_askedBy wsX9_askedBy (zRm 2 43) D (zTy cI cZ cM cS) [.ref mo, .int p1, .int p2, .int p3] (wX9_askedBy cI cZ cM cS mo mst mpa mim mik mbi mbk mnr mia min mas mpr mfa mme mse deeds sd ent st) r := by
  unfold fX9_askedBy at hF
  refine zCR_of (cc := cX9_askedBy) (maxL := 5) (own := RX9) (by decide +kernel) rfl rfl (Nat.le_of_ble_eq_true rfl) (fun p e s m args below meth c Q ls E hK hP hRet hl => ?_)
  have hl : lv_has ls 5 [(0, .ref mo), (1, .int p1), (2, .int p2), (3, .int p3)] := hl
  obtain ⟨hx, hb, hml, hown, hts⟩ := id E
  have inX9 : ∀ w ∈ u_ws RX9 TX9 17, w ∈ wsX9_askedBy := by decide +kernel
  have fl7 := hts (.fieldLink RX9 7 "SplitClassesModel" "st" "[I") (by decide +kernel)
  have cn93 := hts (.constant RX9 93 (-1000000001)) (by decide +kernel)
  have cn94 := hts (.constant RX9 94 (-1000000002)) (by decide +kernel)
  refine lv_aload_n (pc := 0) hx hb dX9_askedBy_0 rfl (lv_at hl 0 rfl) ?_
  refine lv_aload_n (pc := 1) hx hb dX9_askedBy_1 rfl (lv_at hl 0 rfl) ?_
  refine va_get (pc := 2) (ci := 9) (C := RX9) (T := TX9) (N := 17) hx hb hts inX9 hown hK hP 0 rfl rfl 0 (by decide) fl7 (fun _ h9 => h9) rfl dX9_askedBy_2 ?_
  refine lv_bipush (v := (64 : Int32)) (pc := 5) hx hb dX9_askedBy_5 (by decide) ?_
  obtain ⟨r_1, hC1, hF⟩ := ob1_e hF
  refine zVr (pc := 7) (As := [.ref mst, .int (64 : Int32)]) (rest := []) E (tX9_classes l D cI cZ cM cS mo mst mpa mim mik mbi mbk mnr mia min mas mpr mfa mme mse deeds sd ent st (64 : Int32) hC1) 2 gX9_askedBy_X9_classes rfl rfl rfl (by decide +kernel) ⟨Nat.le_of_ble_eq_true rfl, Nat.le_of_ble_eq_true rfl⟩ hK hP [0, 1] rfl 0 9 rfl rfl rfl rfl hl.1 rfl (Nat.le_of_ble_eq_true rfl) dX9_askedBy_7 ⟨Nat.zero_le _, Nat.zero_le _⟩ ?_
  refine lv_istore (lv' := [(4, .int r_1), (0, .ref mo), (1, .int p1), (2, .int p2), (3, .int p3)]) (pc := 10) hx hb dX9_askedBy_10 hl (by decide) rfl (fun ls hl => ?_)
  refine lv_iload_n (pc := 12) hx hb dX9_askedBy_12 rfl (lv_at hl 2 rfl) ?_
  refine lv_topi (fun xs exs => ?_)
  by_cases hk11300 : p1 = (0 : Int32) ∨ p1 = (1 : Int32)
  · have hF := oif_t hF hk11300
    have hg : W p l e (zRm 2 43) s m args below meth c s.heap [] 0 0 Q (F0 m 52 ls []) := by
      refine lv_aload_n (pc := 52) hx hb dX9_askedBy_52 rfl (lv_at hl 1 rfl) ?_
      refine lv_iload_n (pc := 53) hx hb dX9_askedBy_53 rfl (lv_at hl 3 rfl) ?_
      obtain ⟨r_2, hC2, hF⟩ := ob1_e hF
      refine zVr (pc := 54) (As := [.int p2]) (rest := []) E (tX9_isItem l D cI cZ cM cS mo mst mpa mim mik mbi mbk mnr mia min mas mpr mfa mme mse deeds sd ent st p2 hC2) 1 gX9_askedBy_X9_isItem rfl rfl rfl (by decide +kernel) ⟨Nat.le_of_ble_eq_true rfl, Nat.le_of_ble_eq_true rfl⟩ hK hP [0, 1] rfl 0 9 rfl rfl rfl rfl hl.1 rfl (Nat.le_of_ble_eq_true rfl) dX9_askedBy_54 ⟨Nat.zero_le _, Nat.zero_le _⟩ ?_
      refine lv_if_eq (pc := 57) (tgt := 64) hx hb dX9_askedBy_57 (by decide) (fun hc => ?_) (fun hc => ?_)
      · have hF := oif_t hF hc
        refine lv_ldc (v := (-1000000001 : Int32)) (pc := 64) hx hb hown cn93 dX9_askedBy_64 ?_
        cases hF
        exact hRet _ _ rfl dX9_askedBy_66
      · have hF := oif_f hF hc
        refine lv_iconst (v := (0 : Int32)) (pc := 60) hx hb dX9_askedBy_60 (by decide) ?_
        refine lv_goto (pc := 61) (tgt := 66) hx hb dX9_askedBy_61 (by decide) ?_
        cases hF
        exact hRet _ _ rfl dX9_askedBy_66
    rcases hk11300 with hk | hk
    · rw [hk] at exs
      rw [exs]
      refine lv_tableIn (pc := 13) (tgt := 52) hx hb dX9_askedBy_13 (by decide) (by decide) rfl (by decide) ?_
      exact hg
    · rw [hk] at exs
      rw [exs]
      refine lv_tableIn (pc := 13) (tgt := 52) hx hb dX9_askedBy_13 (by decide) (by decide) rfl (by decide) ?_
      exact hg
  have hF := oif_f hF hk11300
  by_cases hk11301 : p1 = (2 : Int32)
  · have hF := oif_t hF hk11301
    rw [hk11301] at exs
    rw [exs]
    refine lv_tableIn (pc := 13) (tgt := 67) hx hb dX9_askedBy_13 (by decide) (by decide) rfl (by decide) ?_
    refine lv_iload_n (pc := 67) hx hb dX9_askedBy_67 rfl (lv_at hl 3 rfl) ?_
    refine lv_iconst (v := (0 : Int32)) (pc := 68) hx hb dX9_askedBy_68 (by decide) ?_
    refine lv_bipush (v := (7 : Int32)) (pc := 69) hx hb dX9_askedBy_69 (by decide) ?_
    obtain ⟨r_3, hC3, hF⟩ := ob1_e hF
    refine zSr (pc := 71) (As := [.int p2, .int (0 : Int32), .int (7 : Int32)]) (rest := []) E (tX9_in l D cI cZ cM cS p2 (0 : Int32) (7 : Int32) hC3) 3 gX9_askedBy_X9_in rfl rfl rfl (by decide +kernel) ⟨Nat.le_of_ble_eq_true rfl, Nat.le_of_ble_eq_true rfl⟩ hK hP [] rfl rfl hl.1 rfl (Nat.le_of_ble_eq_true rfl) dX9_askedBy_71 ⟨Nat.zero_le _, Nat.zero_le _⟩ ?_
    refine lv_if_eq (pc := 74) (tgt := 81) hx hb dX9_askedBy_74 (by decide) (fun hc => ?_) (fun hc => ?_)
    · have hF := oif_t hF hc
      refine lv_ldc (v := (-1000000001 : Int32)) (pc := 81) hx hb hown cn93 dX9_askedBy_81 ?_
      cases hF
      exact hRet _ _ rfl dX9_askedBy_83
    · have hF := oif_f hF hc
      refine lv_iconst (v := (0 : Int32)) (pc := 77) hx hb dX9_askedBy_77 (by decide) ?_
      refine lv_goto (pc := 78) (tgt := 83) hx hb dX9_askedBy_78 (by decide) ?_
      cases hF
      exact hRet _ _ rfl dX9_askedBy_83
  have hF := oif_f hF hk11301
  by_cases hk11302 : p1 = (3 : Int32)
  · have hF := oif_t hF hk11302
    rw [hk11302] at exs
    rw [exs]
    refine lv_tableIn (pc := 13) (tgt := 84) hx hb dX9_askedBy_13 (by decide) (by decide) rfl (by decide) ?_
    refine lv_iload_n (pc := 84) hx hb dX9_askedBy_84 rfl (lv_at hl 3 rfl) ?_
    refine lv_iconst (v := (0 : Int32)) (pc := 85) hx hb dX9_askedBy_85 (by decide) ?_
    refine lv_aload_n (pc := 86) hx hb dX9_askedBy_86 rfl (lv_at hl 1 rfl) ?_
    refine va_get (pc := 87) (ci := 9) (C := RX9) (T := TX9) (N := 17) hx hb hts inX9 hown hK hP 0 rfl rfl 0 (by decide) fl7 (fun _ h9 => h9) rfl dX9_askedBy_87 ?_
    refine lv_iconst (v := (1 : Int32)) (pc := 90) hx hb dX9_askedBy_90 (by decide) ?_
    refine z_iald (pc := 91) (k := 1) hx hb hK hP 1 0 rfl rfl (by decide) (by decide) dX9_askedBy_91 ?_
    refine lv_iconst (v := (1 : Int32)) (pc := 92) hx hb dX9_askedBy_92 (by decide) ?_
    refine lv_isub (pc := 93) hx hb dX9_askedBy_93 ?_
    obtain ⟨r_4, hC4, hF⟩ := ob1_e hF
    refine zSr (pc := 94) (As := [.int p2, .int (0 : Int32), .int ((st 1) - (1 : Int32))]) (rest := []) E (tX9_in l D cI cZ cM cS p2 (0 : Int32) ((st 1) - (1 : Int32)) hC4) 3 gX9_askedBy_X9_in rfl rfl rfl (by decide +kernel) ⟨Nat.le_of_ble_eq_true rfl, Nat.le_of_ble_eq_true rfl⟩ hK hP [] rfl rfl hl.1 rfl (Nat.le_of_ble_eq_true rfl) dX9_askedBy_94 ⟨Nat.zero_le _, Nat.zero_le _⟩ ?_
    refine lv_if_eq (pc := 97) (tgt := 116) hx hb dX9_askedBy_97 (by decide) (fun hc => ?_) (fun hc => ?_)
    · have hF := oif_t hF hc
      refine lv_ldc (v := (-1000000001 : Int32)) (pc := 116) hx hb hown cn93 dX9_askedBy_116 ?_
      cases hF
      exact hRet _ _ rfl dX9_askedBy_118
    · have hF := oif_f hF hc
      refine lv_iload_n (pc := 100) hx hb dX9_askedBy_100 rfl (lv_at hl 4 rfl) ?_
      refine lv_iconst (v := (0 : Int32)) (pc := 101) hx hb dX9_askedBy_101 (by decide) ?_
      refine lv_iload (pc := 102) hx hb dX9_askedBy_102 (lv_at hl 0 rfl) ?_
      refine lv_iconst (v := (1 : Int32)) (pc := 104) hx hb dX9_askedBy_104 (by decide) ?_
      refine lv_isub (pc := 105) hx hb dX9_askedBy_105 ?_
      obtain ⟨r_5, hC5, hF⟩ := ob1_e hF
      refine zSr (pc := 106) (As := [.int p3, .int (0 : Int32), .int (r_1 - (1 : Int32))]) (rest := []) E (tX9_in l D cI cZ cM cS p3 (0 : Int32) (r_1 - (1 : Int32)) hC5) 3 gX9_askedBy_X9_in rfl rfl rfl (by decide +kernel) ⟨Nat.le_of_ble_eq_true rfl, Nat.le_of_ble_eq_true rfl⟩ hK hP [] rfl rfl hl.1 rfl (Nat.le_of_ble_eq_true rfl) dX9_askedBy_106 ⟨Nat.zero_le _, Nat.zero_le _⟩ ?_
      refine lv_if_eq (pc := 109) (tgt := 116) hx hb dX9_askedBy_109 (by decide) (fun hc => ?_) (fun hc => ?_)
      · have hF := oif_t hF hc
        refine lv_ldc (v := (-1000000001 : Int32)) (pc := 116) hx hb hown cn93 dX9_askedBy_116 ?_
        cases hF
        exact hRet _ _ rfl dX9_askedBy_118
      · have hF := oif_f hF hc
        refine lv_iconst (v := (0 : Int32)) (pc := 112) hx hb dX9_askedBy_112 (by decide) ?_
        refine lv_goto (pc := 113) (tgt := 118) hx hb dX9_askedBy_113 (by decide) ?_
        cases hF
        exact hRet _ _ rfl dX9_askedBy_118
  have hF := oif_f hF hk11302
  by_cases hk11303 : p1 = (4 : Int32)
  · have hF := oif_t hF hk11303
    rw [hk11303] at exs
    rw [exs]
    refine lv_tableIn (pc := 13) (tgt := 119) hx hb dX9_askedBy_13 (by decide) (by decide) rfl (by decide) ?_
    refine lv_iconst (v := (0 : Int32)) (pc := 119) hx hb dX9_askedBy_119 (by decide) ?_
    cases hF
    exact hRet _ _ rfl dX9_askedBy_120
  have hF := oif_f hF hk11303
  by_cases hk11304 : p1 = (5 : Int32)
  · have hF := oif_t hF hk11304
    rw [hk11304] at exs
    rw [exs]
    refine lv_tableIn (pc := 13) (tgt := 121) hx hb dX9_askedBy_13 (by decide) (by decide) rfl (by decide) ?_
    refine lv_iload_n (pc := 121) hx hb dX9_askedBy_121 rfl (lv_at hl 3 rfl) ?_
    refine lv_iconst (v := (0 : Int32)) (pc := 122) hx hb dX9_askedBy_122 (by decide) ?_
    refine lv_iload (pc := 123) hx hb dX9_askedBy_123 (lv_at hl 0 rfl) ?_
    refine lv_iconst (v := (1 : Int32)) (pc := 125) hx hb dX9_askedBy_125 (by decide) ?_
    refine lv_isub (pc := 126) hx hb dX9_askedBy_126 ?_
    obtain ⟨r_6, hC6, hF⟩ := ob1_e hF
    refine zSr (pc := 127) (As := [.int p2, .int (0 : Int32), .int (r_1 - (1 : Int32))]) (rest := []) E (tX9_in l D cI cZ cM cS p2 (0 : Int32) (r_1 - (1 : Int32)) hC6) 3 gX9_askedBy_X9_in rfl rfl rfl (by decide +kernel) ⟨Nat.le_of_ble_eq_true rfl, Nat.le_of_ble_eq_true rfl⟩ hK hP [] rfl rfl hl.1 rfl (Nat.le_of_ble_eq_true rfl) dX9_askedBy_127 ⟨Nat.zero_le _, Nat.zero_le _⟩ ?_
    refine lv_if_ne (pc := 130) (tgt := 138) hx hb dX9_askedBy_130 (by decide) (fun hc => ?_) (fun hc => ?_)
    · have hF := oif_f hF hc
      refine lv_iload_n (pc := 138) hx hb dX9_askedBy_138 rfl (lv_at hl 4 rfl) ?_
      refine lv_iconst (v := (0 : Int32)) (pc := 139) hx hb dX9_askedBy_139 (by decide) ?_
      refine lv_bipush (v := (12 : Int32)) (pc := 140) hx hb dX9_askedBy_140 (by decide) ?_
      obtain ⟨r_7, hC7, hF⟩ := ob1_e hF
      refine zSr (pc := 142) (As := [.int p3, .int (0 : Int32), .int (12 : Int32)]) (rest := []) E (tX9_in l D cI cZ cM cS p3 (0 : Int32) (12 : Int32) hC7) 3 gX9_askedBy_X9_in rfl rfl rfl (by decide +kernel) ⟨Nat.le_of_ble_eq_true rfl, Nat.le_of_ble_eq_true rfl⟩ hK hP [] rfl rfl hl.1 rfl (Nat.le_of_ble_eq_true rfl) dX9_askedBy_142 ⟨Nat.zero_le _, Nat.zero_le _⟩ ?_
      refine lv_if_eq (pc := 145) (tgt := 152) hx hb dX9_askedBy_145 (by decide) (fun hc => ?_) (fun hc => ?_)
      · have hF := oif_t hF hc
        refine lv_ldc (v := (-1000000002 : Int32)) (pc := 152) hx hb hown cn94 dX9_askedBy_152 ?_
        cases hF
        exact hRet _ _ rfl dX9_askedBy_154
      · have hF := oif_f hF hc
        refine lv_iconst (v := (0 : Int32)) (pc := 148) hx hb dX9_askedBy_148 (by decide) ?_
        refine lv_goto (pc := 149) (tgt := 154) hx hb dX9_askedBy_149 (by decide) ?_
        cases hF
        exact hRet _ _ rfl dX9_askedBy_154
    · have hF := oif_t hF hc
      refine lv_ldc (v := (-1000000001 : Int32)) (pc := 133) hx hb hown cn93 dX9_askedBy_133 ?_
      refine lv_goto (pc := 135) (tgt := 154) hx hb dX9_askedBy_135 (by decide) ?_
      cases hF
      exact hRet _ _ rfl dX9_askedBy_154
  have hF := oif_f hF hk11304
  rw [exs]
  refine lv_tableOut (pc := 13) (tgt := 155) hx hb dX9_askedBy_13 (ztabO 6 [0, 1, 2, 3, 4, 5] (by decide) (by decide) (zallC (fun q => hk11300 (.inl q)) (zallC (fun q => hk11300 (.inr (q))) (zallC hk11301 (zallC hk11302 (zallC hk11303 (zallC hk11304 zallN))))))) (by decide) ?_
  refine lv_ldc (v := (-1000000002 : Int32)) (pc := 155) hx hb hown cn94 dX9_askedBy_155 ?_
  cases hF
  exact hRet _ _ rfl dX9_askedBy_157
def fX9_setOf (p1 : Int32) (p2 : Int32) (p3 : Int32) (deeds : Int32) (sd : Int32) (ent : Int32) (st : (Nat → Int32)) : Option (Int32) := (if p1 = (0 : Int32) then (ogd ((16 : Int32) + p2) 76 (some (st (Int32.toNatClampNeg ((16 : Int32) + p2))))) else (if p1 = (1 : Int32) then (ogd ((16 : Int32) + p2) 76 (some ((st (Int32.toNatClampNeg ((16 : Int32) + p2))) ||| ((1 : Int32) <<< (p2 &&& 31))))) else (if p1 = (2 : Int32) then (ob1 (fX9_columnSet p2 deeds sd ent st) (fun r_1 => (some r_1))) else (if p1 = (3 : Int32) then (ob1 (fX9_leadsTo p2 p3 deeds sd ent st) (fun r_2 => (some r_2))) else (if p1 = (4 : Int32) then (some (st 2)) else (ob1 (fX9_atLeast p2 p3 deeds sd ent st) (fun r_3 => (some r_3))))))))
abbrev wX9_setOf (cI cZ cM cS : ClassId) (mo mst mpa mim mik mbi mbk mnr mia min mas mpr mfa mme mse : Nat) (deeds : Int32) (sd : Int32) (ent : Int32) (st : (Nat → Int32)) : va_W := [(mo, .inr (9, [.ref mst, .ref mpa, .int deeds, .ref mim, .ref mik, .int sd, .ref mbi, .ref mbk, .int ent, .ref mnr, .ref mia, .ref min, .ref mas, .ref mpr, .ref mfa, .ref mme, .ref mse])), (mst, .inl (cI, 76, .inl st))]
set_option maxHeartbeats 4000000 in
set_option maxRecDepth 100000 in
theorem tX9_setOf (l : Launch) (D : va_G) (cI cZ cM cS : ClassId) (mo mst mpa mim mik mbi mbk mnr mia min mas mpr mfa mme mse : Nat) (deeds : Int32) (sd : Int32) (ent : Int32) (st : (Nat → Int32)) (p1 : Int32) (p2 : Int32) (p3 : Int32) {r : Int32} (hF : fX9_setOf p1 p2 p3 deeds sd ent st = some r) : zCR l yX9_setOf wsX9_setOf (zRm 2 50) D (zTy cI cZ cM cS) [.ref mo, .int p1, .int p2, .int p3] (wX9_setOf cI cZ cM cS mo mst mpa mim mik mbi mbk mnr mia min mas mpr mfa mme mse deeds sd ent st) r := by
  unfold fX9_setOf at hF
  refine zCR_of (cc := cX9_setOf) (maxL := 4) (own := RX9) (by decide +kernel) rfl rfl (Nat.le_of_ble_eq_true rfl) (fun p e s m args below meth c Q ls E hK hP hRet hl => ?_)
  have hl : lv_has ls 4 [(0, .ref mo), (1, .int p1), (2, .int p2), (3, .int p3)] := hl
  obtain ⟨hx, hb, hml, hown, hts⟩ := id E
  have inX9 : ∀ w ∈ u_ws RX9 TX9 17, w ∈ wsX9_setOf := by decide +kernel
  have fl7 := hts (.fieldLink RX9 7 "SplitClassesModel" "st" "[I") (by decide +kernel)
  refine lv_iload_n (pc := 0) hx hb dX9_setOf_0 rfl (lv_at hl 1 rfl) ?_
  refine lv_topi (fun xs exs => ?_)
  by_cases hk10100 : p1 = (0 : Int32)
  · have hF := oif_t hF hk10100
    rw [hk10100] at exs
    rw [exs]
    refine lv_tableIn (pc := 1) (tgt := 36) hx hb dX9_setOf_1 (by decide) (by decide) rfl (by decide) ?_
    refine lv_aload_n (pc := 36) hx hb dX9_setOf_36 rfl (lv_at hl 0 rfl) ?_
    refine va_get (pc := 37) (ci := 9) (C := RX9) (T := TX9) (N := 17) hx hb hts inX9 hown hK hP 0 rfl rfl 0 (by decide) fl7 (fun _ h9 => h9) rfl dX9_setOf_37 ?_
    refine lv_bipush (v := (16 : Int32)) (pc := 40) hx hb dX9_setOf_40 (by decide) ?_
    refine lv_iload_n (pc := 42) hx hb dX9_setOf_42 rfl (lv_at hl 2 rfl) ?_
    refine lv_iadd (pc := 43) hx hb dX9_setOf_43 ?_
    obtain ⟨hg1, hF⟩ := ogd_e hF
    refine va_iald (pc := 44) hx hb hK hP 1 0 rfl rfl hg1 dX9_setOf_44 ?_
    cases hF
    exact hRet _ _ rfl dX9_setOf_45
  have hF := oif_f hF hk10100
  by_cases hk10101 : p1 = (1 : Int32)
  · have hF := oif_t hF hk10101
    rw [hk10101] at exs
    rw [exs]
    refine lv_tableIn (pc := 1) (tgt := 46) hx hb dX9_setOf_1 (by decide) (by decide) rfl (by decide) ?_
    refine lv_aload_n (pc := 46) hx hb dX9_setOf_46 rfl (lv_at hl 0 rfl) ?_
    refine va_get (pc := 47) (ci := 9) (C := RX9) (T := TX9) (N := 17) hx hb hts inX9 hown hK hP 0 rfl rfl 0 (by decide) fl7 (fun _ h9 => h9) rfl dX9_setOf_47 ?_
    refine lv_bipush (v := (16 : Int32)) (pc := 50) hx hb dX9_setOf_50 (by decide) ?_
    refine lv_iload_n (pc := 52) hx hb dX9_setOf_52 rfl (lv_at hl 2 rfl) ?_
    refine lv_iadd (pc := 53) hx hb dX9_setOf_53 ?_
    obtain ⟨hg2, hF⟩ := ogd_e hF
    refine va_iald (pc := 54) hx hb hK hP 1 0 rfl rfl hg2 dX9_setOf_54 ?_
    refine lv_iconst (v := (1 : Int32)) (pc := 55) hx hb dX9_setOf_55 (by decide) ?_
    refine lv_iload_n (pc := 56) hx hb dX9_setOf_56 rfl (lv_at hl 2 rfl) ?_
    refine lv_ishl (pc := 57) hx hb dX9_setOf_57 ?_
    refine lv_ior (pc := 58) hx hb dX9_setOf_58 ?_
    cases hF
    exact hRet _ _ rfl dX9_setOf_59
  have hF := oif_f hF hk10101
  by_cases hk10102 : p1 = (2 : Int32)
  · have hF := oif_t hF hk10102
    rw [hk10102] at exs
    rw [exs]
    refine lv_tableIn (pc := 1) (tgt := 60) hx hb dX9_setOf_1 (by decide) (by decide) rfl (by decide) ?_
    refine lv_aload_n (pc := 60) hx hb dX9_setOf_60 rfl (lv_at hl 0 rfl) ?_
    refine lv_iload_n (pc := 61) hx hb dX9_setOf_61 rfl (lv_at hl 2 rfl) ?_
    obtain ⟨r_1, hC3, hF⟩ := ob1_e hF
    refine zVr (pc := 62) (As := [.int p2]) (rest := []) E (tX9_columnSet l D cI cZ cM cS mo mst mpa mim mik mbi mbk mnr mia min mas mpr mfa mme mse deeds sd ent st p2 hC3) 1 gX9_setOf_X9_columnSet rfl rfl rfl (by decide +kernel) ⟨Nat.le_of_ble_eq_true rfl, Nat.le_of_ble_eq_true rfl⟩ hK hP [0, 1] rfl 0 9 rfl rfl rfl rfl hl.1 rfl (Nat.le_of_ble_eq_true rfl) dX9_setOf_62 ⟨Nat.zero_le _, Nat.zero_le _⟩ ?_
    cases hF
    exact hRet _ _ rfl dX9_setOf_65
  have hF := oif_f hF hk10102
  by_cases hk10103 : p1 = (3 : Int32)
  · have hF := oif_t hF hk10103
    rw [hk10103] at exs
    rw [exs]
    refine lv_tableIn (pc := 1) (tgt := 66) hx hb dX9_setOf_1 (by decide) (by decide) rfl (by decide) ?_
    refine lv_aload_n (pc := 66) hx hb dX9_setOf_66 rfl (lv_at hl 0 rfl) ?_
    refine lv_iload_n (pc := 67) hx hb dX9_setOf_67 rfl (lv_at hl 2 rfl) ?_
    refine lv_iload_n (pc := 68) hx hb dX9_setOf_68 rfl (lv_at hl 3 rfl) ?_
    obtain ⟨r_2, hC4, hF⟩ := ob1_e hF
    refine zVr (pc := 69) (As := [.int p2, .int p3]) (rest := []) E (tX9_leadsTo l D cI cZ cM cS mo mst mpa mim mik mbi mbk mnr mia min mas mpr mfa mme mse deeds sd ent st p2 p3 hC4) 2 gX9_setOf_X9_leadsTo rfl rfl rfl (by decide +kernel) ⟨Nat.le_of_ble_eq_true rfl, Nat.le_of_ble_eq_true rfl⟩ hK hP [0, 1] rfl 0 9 rfl rfl rfl rfl hl.1 rfl (Nat.le_of_ble_eq_true rfl) dX9_setOf_69 ⟨Nat.zero_le _, Nat.zero_le _⟩ ?_
    cases hF
    exact hRet _ _ rfl dX9_setOf_72
  have hF := oif_f hF hk10103
  by_cases hk10104 : p1 = (4 : Int32)
  · have hF := oif_t hF hk10104
    rw [hk10104] at exs
    rw [exs]
    refine lv_tableIn (pc := 1) (tgt := 73) hx hb dX9_setOf_1 (by decide) (by decide) rfl (by decide) ?_
    refine lv_aload_n (pc := 73) hx hb dX9_setOf_73 rfl (lv_at hl 0 rfl) ?_
    refine va_get (pc := 74) (ci := 9) (C := RX9) (T := TX9) (N := 17) hx hb hts inX9 hown hK hP 0 rfl rfl 0 (by decide) fl7 (fun _ h9 => h9) rfl dX9_setOf_74 ?_
    refine lv_iconst (v := (2 : Int32)) (pc := 77) hx hb dX9_setOf_77 (by decide) ?_
    refine z_iald (pc := 78) (k := 2) hx hb hK hP 1 0 rfl rfl (by decide) (by decide) dX9_setOf_78 ?_
    cases hF
    exact hRet _ _ rfl dX9_setOf_79
  have hF := oif_f hF hk10104
  rw [exs]
  refine lv_tableOut (pc := 1) (tgt := 80) hx hb dX9_setOf_1 (ztabO 5 [0, 1, 2, 3, 4] (by decide) (by decide) (zallC hk10100 (zallC hk10101 (zallC hk10102 (zallC hk10103 (zallC hk10104 zallN)))))) (by decide) ?_
  refine lv_aload_n (pc := 80) hx hb dX9_setOf_80 rfl (lv_at hl 0 rfl) ?_
  refine lv_iload_n (pc := 81) hx hb dX9_setOf_81 rfl (lv_at hl 2 rfl) ?_
  refine lv_iload_n (pc := 82) hx hb dX9_setOf_82 rfl (lv_at hl 3 rfl) ?_
  obtain ⟨r_3, hC5, hF⟩ := ob1_e hF
  refine zVr (pc := 83) (As := [.int p2, .int p3]) (rest := []) E (tX9_atLeast l D cI cZ cM cS mo mst mpa mim mik mbi mbk mnr mia min mas mpr mfa mme mse deeds sd ent st p2 p3 hC5) 2 gX9_setOf_X9_atLeast rfl rfl rfl (by decide +kernel) ⟨Nat.le_of_ble_eq_true rfl, Nat.le_of_ble_eq_true rfl⟩ hK hP [0, 1] rfl 0 9 rfl rfl rfl rfl hl.1 rfl (Nat.le_of_ble_eq_true rfl) dX9_setOf_83 ⟨Nat.zero_le _, Nat.zero_le _⟩ ?_
  cases hF
  exact hRet _ _ rfl dX9_setOf_86
def fX9_setBy (p1 : Int32) (p2 : Int32) (p3 : Int32) (deeds : Int32) (sd : Int32) (ent : Int32) (st : (Nat → Int32)) : Option (Int32) := (ob1 (fX9_askedBy p1 p2 p3 deeds sd ent st) (fun r_1 => (if r_1 = (0 : Int32) then (ob1 (fX9_setOf p1 p2 p3 deeds sd ent st) (fun r_2 => (some r_2))) else (some r_1))))
abbrev wX9_setBy (cI cZ cM cS : ClassId) (mo mst mpa mim mik mbi mbk mnr mia min mas mpr mfa mme mse : Nat) (deeds : Int32) (sd : Int32) (ent : Int32) (st : (Nat → Int32)) : va_W := [(mo, .inr (9, [.ref mst, .ref mpa, .int deeds, .ref mim, .ref mik, .int sd, .ref mbi, .ref mbk, .int ent, .ref mnr, .ref mia, .ref min, .ref mas, .ref mpr, .ref mfa, .ref mme, .ref mse])), (mst, .inl (cI, 76, .inl st))]
set_option maxHeartbeats 4000000 in
set_option maxRecDepth 100000 in
theorem tX9_setBy (l : Launch) (D : va_G) (cI cZ cM cS : ClassId) (mo mst mpa mim mik mbi mbk mnr mia min mas mpr mfa mme mse : Nat) (deeds : Int32) (sd : Int32) (ent : Int32) (st : (Nat → Int32)) (p1 : Int32) (p2 : Int32) (p3 : Int32) {r : Int32} (hF : fX9_setBy p1 p2 p3 deeds sd ent st = some r) : zCR l yX9_setBy wsX9_setBy (zRm 3 73) D (zTy cI cZ cM cS) [.ref mo, .int p1, .int p2, .int p3] (wX9_setBy cI cZ cM cS mo mst mpa mim mik mbi mbk mnr mia min mas mpr mfa mme mse deeds sd ent st) r := by
  unfold fX9_setBy at hF
  refine zCR_of (cc := cX9_setBy) (maxL := 5) (own := RX9) (by decide +kernel) rfl rfl (Nat.le_of_ble_eq_true rfl) (fun p e s m args below meth c Q ls E hK hP hRet hl => ?_)
  have hl : lv_has ls 5 [(0, .ref mo), (1, .int p1), (2, .int p2), (3, .int p3)] := hl
  obtain ⟨hx, hb, hml, hown, hts⟩ := id E
  refine lv_aload_n (pc := 0) hx hb dX9_setBy_0 rfl (lv_at hl 0 rfl) ?_
  refine lv_iload_n (pc := 1) hx hb dX9_setBy_1 rfl (lv_at hl 1 rfl) ?_
  refine lv_iload_n (pc := 2) hx hb dX9_setBy_2 rfl (lv_at hl 2 rfl) ?_
  refine lv_iload_n (pc := 3) hx hb dX9_setBy_3 rfl (lv_at hl 3 rfl) ?_
  obtain ⟨r_1, hC1, hF⟩ := ob1_e hF
  refine zVr (pc := 4) (As := [.int p1, .int p2, .int p3]) (rest := []) E (tX9_askedBy l D cI cZ cM cS mo mst mpa mim mik mbi mbk mnr mia min mas mpr mfa mme mse deeds sd ent st p1 p2 p3 hC1) 3 gX9_setBy_X9_askedBy rfl rfl rfl (by decide +kernel) ⟨Nat.le_of_ble_eq_true rfl, Nat.le_of_ble_eq_true rfl⟩ hK hP [0, 1] rfl 0 9 rfl rfl rfl rfl hl.1 rfl (Nat.le_of_ble_eq_true rfl) dX9_setBy_4 ⟨Nat.zero_le _, Nat.zero_le _⟩ ?_
  refine lv_istore (lv' := [(4, .int r_1), (0, .ref mo), (1, .int p1), (2, .int p2), (3, .int p3)]) (pc := 7) hx hb dX9_setBy_7 hl (by decide) rfl (fun ls hl => ?_)
  refine lv_iload (pc := 9) hx hb dX9_setBy_9 (lv_at hl 0 rfl) ?_
  refine lv_if_eq (pc := 11) (tgt := 19) hx hb dX9_setBy_11 (by decide) (fun hc => ?_) (fun hc => ?_)
  · have hF := oif_t hF hc
    refine lv_aload_n (pc := 19) hx hb dX9_setBy_19 rfl (lv_at hl 1 rfl) ?_
    refine lv_iload_n (pc := 20) hx hb dX9_setBy_20 rfl (lv_at hl 2 rfl) ?_
    refine lv_iload_n (pc := 21) hx hb dX9_setBy_21 rfl (lv_at hl 3 rfl) ?_
    refine lv_iload_n (pc := 22) hx hb dX9_setBy_22 rfl (lv_at hl 4 rfl) ?_
    obtain ⟨r_2, hC2, hF⟩ := ob1_e hF
    refine zVr (pc := 23) (As := [.int p1, .int p2, .int p3]) (rest := []) E (tX9_setOf l D cI cZ cM cS mo mst mpa mim mik mbi mbk mnr mia min mas mpr mfa mme mse deeds sd ent st p1 p2 p3 hC2) 3 gX9_setBy_X9_setOf rfl rfl rfl (by decide +kernel) ⟨Nat.le_of_ble_eq_true rfl, Nat.le_of_ble_eq_true rfl⟩ hK hP [0, 1] rfl 0 9 rfl rfl rfl rfl hl.1 rfl (Nat.le_of_ble_eq_true rfl) dX9_setBy_23 ⟨Nat.zero_le _, Nat.zero_le _⟩ ?_
    cases hF
    exact hRet _ _ rfl dX9_setBy_26
  · have hF := oif_f hF hc
    refine lv_iload (pc := 14) hx hb dX9_setBy_14 (lv_at hl 0 rfl) ?_
    refine lv_goto (pc := 16) (tgt := 26) hx hb dX9_setBy_16 (by decide) ?_
    cases hF
    exact hRet _ _ rfl dX9_setBy_26
