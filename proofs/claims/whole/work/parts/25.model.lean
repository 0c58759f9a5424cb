def fX9_begin_b17  (x2_2 : Int32) (st_2 : (Nat → Int32)) : Option ((Int32 × (Nat → Int32)) ⊕ ((Nat → Int32))) := (if (12 : Int32) ≤ x2_2 then (some (.inr st_2)) else (ogd ((64 : Int32) + x2_2) 76 (some (.inl ((x2_2 + (1 : Int32)), (upd st_2 (Int32.toNatClampNeg ((64 : Int32) + x2_2)) (0 : Int32)))))))
def fX9_begin_s17  (sg_ : Int32 × (Nat → Int32)) : Option ((Int32 × (Nat → Int32)) ⊕ ((Nat → Int32))) := fX9_begin_b17  sg_.1 sg_.2
def fX9_begin (deeds : Int32) (sd : Int32) (ent : Int32) (st : (Nat → Int32)) (past : (Nat → Int32)) : Option (Int32 × Int32 × (Nat → Int32) × (Nat → Int32)) := (ob2 (fX9_notes deeds sd ent st past) (fun deeds_1 past_1 => (ob1 (fX9_classes (64 : Int32) deeds_1 sd ent st) (fun r_1 => (ob1 (olp (fX9_begin_s17) oFu ((0 : Int32), st)) (fun st_3 => (some (r_1, deeds_1, (upd st_3 3 (0 : Int32)), past_1))))))))
abbrev wX9_begin (cI cZ cM cS : ClassId) (mo mst mpa mim mik mbi mbk mnr mia min mas mpr mfa mme mse : Nat) (deeds : Int32) (sd : Int32) (ent : Int32) (st : (Nat → Int32)) (past : (Nat → Int32)) : va_W := [(mo, .inr (9, [.ref mst, .ref mpa, .int deeds, .ref mim, .ref mik, .int sd, .ref mbi, .ref mbk, .int ent, .ref mnr, .ref mia, .ref min, .ref mas, .ref mpr, .ref mfa, .ref mme, .ref mse])), (mst, .inl (cI, 76, .inl st)), (mpa, .inl (cI, 1216, .inl past))]
set_option maxHeartbeats 4000000 in
set_option maxRecDepth 100000 in
theorem tX9_begin (l : Launch) (D : va_G) (cI cZ cM cS : ClassId) (mo mst mpa mim mik mbi mbk mnr mia min mas mpr mfa mme mse : Nat) (deeds : Int32) (sd : Int32) (ent : Int32) (st : (Nat → Int32)) (past : (Nat → Int32)) {r : Int32} {deeds' : Int32} {st' : (Nat → Int32)} {past' : (Nat → Int32)} (hF : fX9_begin deeds sd ent st past = some (r, deeds', st', past')) : zCW l yX9_begin wsX9_begin (zRm 2 45) D (zTy cI cZ cM cS) [.ref mo] (wX9_begin cI cZ cM cS mo mst mpa mim mik mbi mbk mnr mia min mas mpr mfa mme mse deeds sd ent st past) (wX9_begin cI cZ cM cS mo mst mpa mim mik mbi mbk mnr mia min mas mpr mfa mme mse deeds' sd ent st' past') (some (.int r)) := by
  unfold fX9_begin at hF
  refine zCW_ofi (cc := cX9_begin) (maxL := 3) (own := RX9) (by decide) rfl rfl (Nat.le_of_ble_eq_true rfl) (fun p e s m args below meth c Q ls A E hA hK hP hD hRet hS hl => ?_)
  refine zgen (fun H locs hP hS => ?_) hP hS
  have hl : lv_has ls 3 [(0, .ref mo)] := hl
  obtain ⟨hx, hb, hml, hown, hts⟩ := id E
  have inX9 : ∀ w ∈ u_ws RX9 TX9 17, w ∈ wsX9_begin := by decide +kernel
  have fl7 := hts (.fieldLink RX9 7 "SplitClassesModel" "st" "[I") (by decide +kernel)
  refine lv_aload_n (pc := 0) hx hb dX9_begin_0 rfl (lv_at hl 0 rfl) ?_
  obtain ⟨deeds_1, past_1, hC1, hF⟩ := ob2_e hF
  refine zV (pc := 1) (As := []) (rest := []) (wr := []) (w2 := (wX9_begin cI cZ cM cS mo mst mpa mim mik mbi mbk mnr mia min mas mpr mfa mme mse deeds_1 sd ent st past_1)) E (tX9_notes l D cI cZ cM cS mo mst mpa mim mik mbi mbk mnr mia min mas mpr mfa mme mse deeds sd ent st past hC1) 0 gX9_begin_X9_notes rfl rfl rfl (by decide +kernel) ⟨Nat.le_of_ble_eq_true rfl, Nat.le_of_ble_eq_true rfl⟩ hK hP hD hS hA [0, 1, 2] [] [0, 1, 2] (by decide) rfl rfl (by decide) (by decide) rfl (by decide) 0 9 rfl rfl rfl rfl hl.1 rfl (Nat.le_of_ble_eq_true rfl) dX9_begin_1 ⟨Nat.zero_le _, Nat.zero_le _⟩ (fun H locs hP hD hS => ?_)
  refine W.eq (g2 := F0 m 4 ls []) rfl ?_
  refine lv_aload_n (pc := 4) hx hb dX9_begin_4 rfl (lv_at hl 0 rfl) ?_
  refine lv_aload_n (pc := 5) hx hb dX9_begin_5 rfl (lv_at hl 0 rfl) ?_
  refine va_get (pc := 6) (ci := 9) (C := RX9) (T := TX9) (N := 17) hx hb hts inX9 hown hK hP 0 rfl rfl 0 (by decide) fl7 (fun _ h9 => h9) rfl dX9_begin_6 ?_
  refine lv_bipush (v := (64 : Int32)) (pc := 9) hx hb dX9_begin_9 (by decide) ?_
  obtain ⟨r_1, hC2, hF⟩ := ob1_e hF
  refine zVr (pc := 11) (As := [.ref mst, .int (64 : Int32)]) (rest := []) E (tX9_classes l D cI cZ cM cS mo mst mpa mim mik mbi mbk mnr mia min mas mpr mfa mme mse deeds_1 sd ent st (64 : Int32) hC2) 2 gX9_begin_X9_classes rfl rfl rfl (by decide +kernel) ⟨Nat.le_of_ble_eq_true rfl, Nat.le_of_ble_eq_true rfl⟩ hK hP [0, 1] rfl 0 9 rfl rfl rfl rfl hl.1 rfl (Nat.le_of_ble_eq_true rfl) dX9_begin_11 ⟨Nat.zero_le _, Nat.zero_le _⟩ ?_
  refine lv_istore_n (lv' := [(1, .int r_1), (0, .ref mo)]) (pc := 14) hx hb dX9_begin_14 rfl hl (by decide) rfl (fun ls hl => ?_)
  refine lv_iconst (v := (0 : Int32)) (pc := 15) hx hb dX9_begin_15 (by decide) ?_
  refine lv_istore_n (lv' := [(2, .int (0 : Int32)), (1, .int r_1), (0, .ref mo)]) (pc := 16) hx hb dX9_begin_16 rfl hl (by decide) rfl (fun ls hl => ?_)
  obtain ⟨st_3, hL4, hF⟩ := ob1_e hF
  have ex4 : ∀ (H : Heap) (locs : List Loc) (ls : Array Slot), va_P D vwCl (wX9_begin cI cZ cM cS mo mst mpa mim mik mbi mbk mnr mia min mas mpr mfa mme mse deeds_1 sd ent st_3 past_1) H → va_D A (wX9_begin cI cZ cM cS mo mst mpa mim mik mbi mbk mnr mia min mas mpr mfa mme mse deeds_1 sd ent st_3 past_1) → va_S A s.heap H locs → lv_has ls 3 [(1, .int r_1), (0, .ref mo)] → W p l e (zRm 2 45) s m args below meth c H locs 0 0 Q (F0 m 39 ls []) := by
    intro H locs ls hP hD hS hl
    refine lv_aload_n (pc := 39) hx hb dX9_begin_39 rfl (lv_at hl 1 rfl) ?_
    refine va_get (pc := 40) (ci := 9) (C := RX9) (T := TX9) (N := 17) hx hb hts inX9 hown hK hP 0 rfl rfl 0 (by decide) fl7 (fun _ h9 => h9) rfl dX9_begin_40 ?_
    refine lv_iconst (v := (3 : Int32)) (pc := 43) hx hb dX9_begin_43 (by decide) ?_
    refine lv_iconst (v := (0 : Int32)) (pc := 44) hx hb dX9_begin_44 (by decide) ?_
    refine z_iast (pc := 45) (k := 3) hx hb hK hP hD hS 1 0 rfl rfl (by decide) (by decide) dX9_begin_45 (fun H locs hP hD hS => ?_)
    have hP : va_P D vwCl (wX9_begin cI cZ cM cS mo mst mpa mim mik mbi mbk mnr mia min mas mpr mfa mme mse deeds_1 sd ent (upd st_3 3 (0 : Int32)) past_1) H := hP
    have hD : va_D A (wX9_begin cI cZ cM cS mo mst mpa mim mik mbi mbk mnr mia min mas mpr mfa mme mse deeds_1 sd ent (upd st_3 3 (0 : Int32)) past_1) := hD
    refine lv_iload_n (pc := 46) hx hb dX9_begin_46 rfl (lv_at hl 0 rfl) ?_
    cases hF
    exact hRet _ _ _ _ rfl dX9_begin_47 hP hD hS
  have lp4 : ∀ (n : Nat) (x2_2 : Int32) (st_2 : (Nat → Int32)) (H : Heap) (locs : List Loc) (ls : Array Slot), olp (fX9_begin_s17) n (x2_2, st_2) = some st_3 → va_P D vwCl (wX9_begin cI cZ cM cS mo mst mpa mim mik mbi mbk mnr mia min mas mpr mfa mme mse deeds_1 sd ent st_2 past_1) H → va_D A (wX9_begin cI cZ cM cS mo mst mpa mim mik mbi mbk mnr mia min mas mpr mfa mme mse deeds_1 sd ent st_2 past_1) → va_S A s.heap H locs → lv_has ls 3 [(2, .int x2_2), (1, .int r_1), (0, .ref mo)] → W p l e (zRm 2 45) s m args below meth c H locs 0 0 Q (F0 m 17 ls []) := by
    intro n
    induction n with
    | zero => intro x2_2 st_2 H locs ls hL; exact olp_0 hL
    | succ n ih =>
      intro x2_2 st_2 H locs ls hL4 hP hD hS hl
      obtain ⟨z, hz4, hL4⟩ := olp_e hL4
      have hz4 : fX9_begin_b17  x2_2 st_2 = some z := hz4
      unfold fX9_begin_b17 at hz4
      refine lv_iload_n (pc := 17) hx hb dX9_begin_17 rfl (lv_at hl 0 rfl) ?_
      refine lv_bipush (v := (12 : Int32)) (pc := 18) hx hb dX9_begin_18 (by decide) ?_
      refine lv_icmp_ge (pc := 20) (tgt := 39) hx hb dX9_begin_20 (by decide) (fun hc => ?_) (fun hc => ?_)
      · have hz4 := oif_t hz4 hc
        have hE := olp_r hz4 hL4
        cases hE
        exact ex4 _ _ _ hP hD hS (lv_sub hl [1, 2] rfl)
      · have hz4 := oif_f hz4 hc
        refine lv_aload_n (pc := 23) hx hb dX9_begin_23 rfl (lv_at hl 2 rfl) ?_
        refine va_get (pc := 24) (ci := 9) (C := RX9) (T := TX9) (N := 17) hx hb hts inX9 hown hK hP 0 rfl rfl 0 (by decide) fl7 (fun _ h9 => h9) rfl dX9_begin_24 ?_
        refine lv_bipush (v := (64 : Int32)) (pc := 27) hx hb dX9_begin_27 (by decide) ?_
        refine lv_iload_n (pc := 29) hx hb dX9_begin_29 rfl (lv_at hl 0 rfl) ?_
        refine lv_iadd (pc := 30) hx hb dX9_begin_30 ?_
        refine lv_iconst (v := (0 : Int32)) (pc := 31) hx hb dX9_begin_31 (by decide) ?_
        obtain ⟨hg5, hz4⟩ := ogd_e hz4
        refine va_iast (pc := 32) hx hb hK hP hD hS 1 0 rfl rfl hg5 dX9_begin_32 (fun H locs hP hD hS => ?_)
        have hP : va_P D vwCl (wX9_begin cI cZ cM cS mo mst mpa mim mik mbi mbk mnr mia min mas mpr mfa mme mse deeds_1 sd ent (upd st_2 (Int32.toNatClampNeg ((64 : Int32) + x2_2)) (0 : Int32)) past_1) H := hP
        have hD : va_D A (wX9_begin cI cZ cM cS mo mst mpa mim mik mbi mbk mnr mia min mas mpr mfa mme mse deeds_1 sd ent (upd st_2 (Int32.toNatClampNeg ((64 : Int32) + x2_2)) (0 : Int32)) past_1) := hD
        refine lv_iinc (v := (x2_2 + (1 : Int32))) (lv' := [(2, .int (x2_2 + (1 : Int32))), (1, .int r_1), (0, .ref mo)]) (pc := 33) hx hb dX9_begin_33 hl (k := 0) rfl rfl (by decide) rfl (fun ls hl => ?_)
        refine lv_goto (pc := 36) (tgt := 17) hx hb dX9_begin_36 (by decide) ?_
        exact ih _ _ _ _ _ (olp_l hz4 hL4) hP hD hS (lv_sub hl [0, 1, 2] rfl)
  exact lp4 oFu _ _ _ _ _ hL4 hP hD hS (lv_sub hl [0, 1, 2] rfl)
def fX9_splitsNow (p1 : Int32) (deeds : Int32) (sd : Int32) (ent : Int32) (st : (Nat → Int32)) (past : (Nat → Int32)) (nr : (Nat → Int32)) : Option (Int32 × Int32 × (Nat → Int32) × (Nat → Int32) × (Nat → Int32)) := (ob2 (fX9_notes deeds sd ent st past) (fun deeds_1 past_1 => (ob1 (fX9_sizeOf p1) (fun r_1 => (ob2 (fX9_splits (64 : Int32) p1 deeds_1 sd ent (upd st 3 ((st 3) + r_1)) nr) (fun st_1 nr_1 => (ob1 (fX9_classes (64 : Int32) deeds_1 sd ent st_1) (fun r_2 => (some (r_2, deeds_1, st_1, past_1, nr_1))))))))))
abbrev wX9_splitsNow (cI cZ cM cS : ClassId) (mo mst mpa mim mik mbi mbk mnr mia min mas mpr mfa mme mse : Nat) (deeds : Int32) (sd : Int32) (ent : Int32) (st : (Nat → Int32)) (past : (Nat → Int32)) (nr : (Nat → Int32)) : va_W := [(mo, .inr (9, [.ref mst, .ref mpa, .int deeds, .ref mim, .ref mik, .int sd, .ref mbi, .ref mbk, .int ent, .ref mnr, .ref mia, .ref min, .ref mas, .ref mpr, .ref mfa, .ref mme, .ref mse])), (mst, .inl (cI, 76, .inl st)), (mpa, .inl (cI, 1216, .inl past)), (mnr, .inl (cI, 12, .inl nr))]
set_option maxHeartbeats 4000000 in
set_option maxRecDepth 100000 in
theorem tX9_splitsNow (l : Launch) (D : va_G) (cI cZ cM cS : ClassId) (mo mst mpa mim mik mbi mbk mnr mia min mas mpr mfa mme mse : Nat) (deeds : Int32) (sd : Int32) (ent : Int32) (st : (Nat → Int32)) (past : (Nat → Int32)) (nr : (Nat → Int32)) (p1 : Int32) {r : Int32} {deeds' : Int32} {st' : (Nat → Int32)} {past' : (Nat → Int32)} {nr' : (Nat → Int32)} (hF : fX9_splitsNow p1 deeds sd ent st past nr = some (r, deeds', st', past', nr')) : zCW l yX9_splitsNow wsX9_splitsNow (zRm 3 74) D (zTy cI cZ cM cS) [.ref mo, .int p1] (wX9_splitsNow cI cZ cM cS mo mst mpa mim mik mbi mbk mnr mia min mas mpr mfa mme mse deeds sd ent st past nr) (wX9_splitsNow cI cZ cM cS mo mst mpa mim mik mbi mbk mnr mia min mas mpr mfa mme mse deeds' sd ent st' past' nr') (some (.int r)) := by
  unfold fX9_splitsNow at hF
  refine zCW_ofi (cc := cX9_splitsNow) (maxL := 2) (own := RX9) (by decide) rfl rfl (Nat.le_of_ble_eq_true rfl) (fun p e s m args below meth c Q ls A E hA hK hP hD hRet hS hl => ?_)
  refine zgen (fun H locs hP hS => ?_) hP hS
  have hl : lv_has ls 2 [(0, .ref mo), (1, .int p1)] := hl
  obtain ⟨hx, hb, hml, hown, hts⟩ := id E
  have inX9 : ∀ w ∈ u_ws RX9 TX9 17, w ∈ wsX9_splitsNow := by decide +kernel
  have fl7 := hts (.fieldLink RX9 7 "SplitClassesModel" "st" "[I") (by decide +kernel)
  refine lv_aload_n (pc := 0) hx hb dX9_splitsNow_0 rfl (lv_at hl 0 rfl) ?_
  obtain ⟨deeds_1, past_1, hC1, hF⟩ := ob2_e hF
  refine zV (pc := 1) (As := []) (rest := []) (wr := [(mnr, .inl (cI, 12, .inl nr))]) (w2 := (wX9_splitsNow cI cZ cM cS mo mst mpa mim mik mbi mbk mnr mia min mas mpr mfa mme mse deeds_1 sd ent st past_1 nr)) E (tX9_notes l D cI cZ cM cS mo mst mpa mim mik mbi mbk mnr mia min mas mpr mfa mme mse deeds sd ent st past hC1) 0 gX9_splitsNow_X9_notes rfl rfl rfl (by decide +kernel) ⟨Nat.le_of_ble_eq_true rfl, Nat.le_of_ble_eq_true rfl⟩ hK hP hD hS hA [0, 1, 2] [3] [1, 2, 3, 0] (by decide) rfl rfl (by decide) (by decide) rfl (by decide) 0 9 rfl rfl rfl rfl hl.1 rfl (Nat.le_of_ble_eq_true rfl) dX9_splitsNow_1 ⟨Nat.zero_le _, Nat.zero_le _⟩ (fun H locs hP hD hS => ?_)
  refine W.eq (g2 := F0 m 4 ls []) rfl ?_
  refine lv_aload_n (pc := 4) hx hb dX9_splitsNow_4 rfl (lv_at hl 0 rfl) ?_
  refine va_get (pc := 5) (ci := 9) (C := RX9) (T := TX9) (N := 17) hx hb hts inX9 hown hK hP 0 rfl rfl 0 (by decide) fl7 (fun _ h9 => h9) rfl dX9_splitsNow_5 ?_
  refine lv_iconst (v := (3 : Int32)) (pc := 8) hx hb dX9_splitsNow_8 (by decide) ?_
  refine lv_dup2_11 (pc := 9) hx hb dX9_splitsNow_9 rfl rfl ?_
  refine z_iald (pc := 10) (k := 3) hx hb hK hP 1 0 rfl rfl (by decide) (by decide) dX9_splitsNow_10 ?_
  refine lv_iload_n (pc := 11) hx hb dX9_splitsNow_11 rfl (lv_at hl 1 rfl) ?_
  obtain ⟨r_1, hC2, hF⟩ := ob1_e hF
  refine zSr (pc := 12) (As := [.int p1]) (rest := [.int (st 3), .int (3 : Int32), .ref mst]) E (tX9_sizeOf l D cI cZ cM cS p1 hC2) 1 gX9_splitsNow_X9_sizeOf rfl rfl rfl (by decide +kernel) ⟨Nat.le_of_ble_eq_true rfl, Nat.le_of_ble_eq_true rfl⟩ hK hP [] rfl rfl hl.1 rfl (Nat.le_of_ble_eq_true rfl) dX9_splitsNow_12 ⟨Nat.zero_le _, Nat.zero_le _⟩ ?_
  refine lv_iadd (pc := 15) hx hb dX9_splitsNow_15 ?_
  refine z_iast (pc := 16) (k := 3) hx hb hK hP hD hS 1 0 rfl rfl (by decide) (by decide) dX9_splitsNow_16 (fun H locs hP hD hS => ?_)
  have hP : va_P D vwCl (wX9_splitsNow cI cZ cM cS mo mst mpa mim mik mbi mbk mnr mia min mas mpr mfa mme mse deeds_1 sd ent (upd st 3 ((st 3) + r_1)) past_1 nr) H := hP
  have hD : va_D A (wX9_splitsNow cI cZ cM cS mo mst mpa mim mik mbi mbk mnr mia min mas mpr mfa mme mse deeds_1 sd ent (upd st 3 ((st 3) + r_1)) past_1 nr) := hD
  refine lv_aload_n (pc := 17) hx hb dX9_splitsNow_17 rfl (lv_at hl 0 rfl) ?_
  refine lv_aload_n (pc := 18) hx hb dX9_splitsNow_18 rfl (lv_at hl 0 rfl) ?_
  refine va_get (pc := 19) (ci := 9) (C := RX9) (T := TX9) (N := 17) hx hb hts inX9 hown hK hP 0 rfl rfl 0 (by decide) fl7 (fun _ h9 => h9) rfl dX9_splitsNow_19 ?_
  refine lv_bipush (v := (64 : Int32)) (pc := 22) hx hb dX9_splitsNow_22 (by decide) ?_
  refine lv_iload_n (pc := 24) hx hb dX9_splitsNow_24 rfl (lv_at hl 1 rfl) ?_
  obtain ⟨st_1, nr_1, hC3, hF⟩ := ob2_e hF
  refine zV (pc := 25) (As := [.ref mst, .int (64 : Int32), .int p1]) (rest := []) (wr := [(mpa, .inl (cI, 1216, .inl past_1))]) (w2 := (wX9_splitsNow cI cZ cM cS mo mst mpa mim mik mbi mbk mnr mia min mas mpr mfa mme mse deeds_1 sd ent st_1 past_1 nr_1)) E (tX9_splits l D cI cZ cM cS mo mst mpa mim mik mbi mbk mnr mia min mas mpr mfa mme mse deeds_1 sd ent (upd st 3 ((st 3) + r_1)) nr (64 : Int32) p1 hC3) 3 gX9_splitsNow_X9_splits rfl rfl rfl (by decide +kernel) ⟨Nat.le_of_ble_eq_true rfl, Nat.le_of_ble_eq_true rfl⟩ hK hP hD hS hA [0, 1, 3] [2] [1, 2, 0, 3] (by decide) rfl rfl (by decide) (by decide) rfl (by decide) 0 9 rfl rfl rfl rfl hl.1 rfl (Nat.le_of_ble_eq_true rfl) dX9_splitsNow_25 ⟨Nat.zero_le _, Nat.zero_le _⟩ (fun H locs hP hD hS => ?_)
  refine W.eq (g2 := F0 m 28 ls []) rfl ?_
  refine lv_aload_n (pc := 28) hx hb dX9_splitsNow_28 rfl (lv_at hl 0 rfl) ?_
  refine lv_aload_n (pc := 29) hx hb dX9_splitsNow_29 rfl (lv_at hl 0 rfl) ?_
  refine va_get (pc := 30) (ci := 9) (C := RX9) (T := TX9) (N := 17) hx hb hts inX9 hown hK hP 0 rfl rfl 0 (by decide) fl7 (fun _ h9 => h9) rfl dX9_splitsNow_30 ?_
  refine lv_bipush (v := (64 : Int32)) (pc := 33) hx hb dX9_splitsNow_33 (by decide) ?_
  obtain ⟨r_2, hC4, hF⟩ := ob1_e hF
  refine zVr (pc := 35) (As := [.ref mst, .int (64 : Int32)]) (rest := []) E (tX9_classes l D cI cZ cM cS mo mst mpa mim mik mbi mbk mnr mia min mas mpr mfa mme mse deeds_1 sd ent st_1 (64 : Int32) hC4) 2 gX9_splitsNow_X9_classes rfl rfl rfl (by decide +kernel) ⟨Nat.le_of_ble_eq_true rfl, Nat.le_of_ble_eq_true rfl⟩ hK hP [0, 1] rfl 0 9 rfl rfl rfl rfl hl.1 rfl (Nat.le_of_ble_eq_true rfl) dX9_splitsNow_35 ⟨Nat.zero_le _, Nat.zero_le _⟩ ?_
  cases hF
  exact hRet _ _ _ _ rfl dX9_splitsNow_38 hP hD hS
def fX9_split (p1 : Int32) (deeds : Int32) (sd : Int32) (ent : Int32) (st : (Nat → Int32)) (past : (Nat → Int32)) (nr : (Nat → Int32)) : Option (Int32 × Int32 × (Nat → Int32) × (Nat → Int32) × (Nat → Int32)) := (ob1 (fX9_isSet p1 deeds sd ent st) (fun r_1 => (if r_1 = (0 : Int32) then (some ((-1000000001 : Int32), deeds, st, past, nr)) else (ob5 (fX9_splitsNow p1 deeds sd ent st past nr) (fun r_2 deeds_1 st_1 past_1 nr_1 => (some (r_2, deeds_1, st_1, past_1, nr_1)))))))
abbrev wX9_split (cI cZ cM cS : ClassId) (mo mst mpa mim mik mbi mbk mnr mia min mas mpr mfa mme mse : Nat) (deeds : Int32) (sd : Int32) (ent : Int32) (st : (Nat → Int32)) (past : (Nat → Int32)) (nr : (Nat → Int32)) : va_W := [(mo, .inr (9, [.ref mst, .ref mpa, .int deeds, .ref mim, .ref mik, .int sd, .ref mbi, .ref mbk, .int ent, .ref mnr, .ref mia, .ref min, .ref mas, .ref mpr, .ref mfa, .ref mme, .ref mse])), (mst, .inl (cI, 76, .inl st)), (mpa, .inl (cI, 1216, .inl past)), (mnr, .inl (cI, 12, .inl nr))]
set_option maxHeartbeats 4000000 in
set_option maxRecDepth 100000 in
theorem tX9_split (l : Launch) (D : va_G) (cI cZ cM cS : ClassId) (mo mst mpa mim mik mbi mbk mnr mia min mas mpr mfa mme mse : Nat) (deeds : Int32) (sd : Int32) (ent : Int32) (st : (Nat → Int32)) (past : (Nat → Int32)) (nr : (Nat → Int32)) (p1 : Int32) {r : Int32} {deeds' : Int32} {st' : (Nat → Int32)} {past' : (Nat → Int32)} {nr' : (Nat → Int32)} (hF : fX9_split p1 deeds sd ent st past nr = some (r, deeds', st', past', nr')) : zCW l yX9_split wsX9_split (zRm 4 95) D (zTy cI cZ cM cS) [.ref mo, .int p1] (wX9_split cI cZ cM cS mo mst mpa mim mik mbi mbk mnr mia min mas mpr mfa mme mse deeds sd ent st past nr) (wX9_split cI cZ cM cS mo mst mpa mim mik mbi mbk mnr mia min mas mpr mfa mme mse deeds' sd ent st' past' nr') (some (.int r)) := by
  unfold fX9_split at hF
  refine zCW_ofi (cc := cX9_split) (maxL := 2) (own := RX9) (by decide) rfl rfl (Nat.le_of_ble_eq_true rfl) (fun p e s m args below meth c Q ls A E hA hK hP hD hRet hS hl => ?_)
  refine zgen (fun H locs hP hS => ?_) hP hS
  have hl : lv_has ls 2 [(0, .ref mo), (1, .int p1)] := hl
  obtain ⟨hx, hb, hml, hown, hts⟩ := id E
  have cn93 := hts (.constant RX9 93 (-1000000001)) (by decide +kernel)
  refine lv_aload_n (pc := 0) hx hb dX9_split_0 rfl (lv_at hl 0 rfl) ?_
  refine lv_iload_n (pc := 1) hx hb dX9_split_1 rfl (lv_at hl 1 rfl) ?_
  obtain ⟨r_1, hC1, hF⟩ := ob1_e hF
  refine zVr (pc := 2) (As := [.int p1]) (rest := []) E (tX9_isSet l D cI cZ cM cS mo mst mpa mim mik mbi mbk mnr mia min mas mpr mfa mme mse deeds sd ent st p1 hC1) 1 gX9_split_X9_isSet rfl rfl rfl (by decide +kernel) ⟨Nat.le_of_ble_eq_true rfl, Nat.le_of_ble_eq_true rfl⟩ hK hP [0, 1] rfl 0 9 rfl rfl rfl rfl hl.1 rfl (Nat.le_of_ble_eq_true rfl) dX9_split_2 ⟨Nat.zero_le _, Nat.zero_le _⟩ ?_
  refine lv_if_eq (pc := 5) (tgt := 16) hx hb dX9_split_5 (by decide) (fun hc => ?_) (fun hc => ?_)
  · have hF := oif_t hF hc
    refine lv_ldc (v := (-1000000001 : Int32)) (pc := 16) hx hb hown cn93 dX9_split_16 ?_
    cases hF
    exact hRet _ _ _ _ rfl dX9_split_18 hP hD hS
  · have hF := oif_f hF hc
    refine lv_aload_n (pc := 8) hx hb dX9_split_8 rfl (lv_at hl 0 rfl) ?_
    refine lv_iload_n (pc := 9) hx hb dX9_split_9 rfl (lv_at hl 1 rfl) ?_
    obtain ⟨r_2, deeds_1, st_1, past_1, nr_1, hC2, hF⟩ := ob5_e hF
    refine zV (pc := 10) (As := [.int p1]) (rest := []) (wr := []) (w2 := (wX9_split cI cZ cM cS mo mst mpa mim mik mbi mbk mnr mia min mas mpr mfa mme mse deeds_1 sd ent st_1 past_1 nr_1)) E (tX9_splitsNow l D cI cZ cM cS mo mst mpa mim mik mbi mbk mnr mia min mas mpr mfa mme mse deeds sd ent st past nr p1 hC2) 1 gX9_split_X9_splitsNow rfl rfl rfl (by decide +kernel) ⟨Nat.le_of_ble_eq_true rfl, Nat.le_of_ble_eq_true rfl⟩ hK hP hD hS hA [0, 1, 2, 3] [] [0, 1, 2, 3] (by decide) rfl rfl (by decide) (by decide) rfl (by decide) 0 9 rfl rfl rfl rfl hl.1 rfl (Nat.le_of_ble_eq_true rfl) dX9_split_10 ⟨Nat.zero_le _, Nat.zero_le _⟩ (fun H locs hP hD hS => ?_)
    refine W.eq (g2 := F0 m 13 ls [.int r_2]) rfl ?_
    refine lv_goto (pc := 13) (tgt := 18) hx hb dX9_split_13 (by decide) ?_
    cases hF
    exact hRet _ _ _ _ rfl dX9_split_18 hP hD hS
def fX9_by (p1 : Int32) (p2 : Int32) (p3 : Int32) (deeds : Int32) (sd : Int32) (ent : Int32) (st : (Nat → Int32)) (past : (Nat → Int32)) (nr : (Nat → Int32)) : Option (Int32 × Int32 × (Nat → Int32) × (Nat → Int32) × (Nat → Int32)) := (ob1 (fX9_askedBy p1 p2 p3 deeds sd ent st) (fun r_1 => (if r_1 = (0 : Int32) then (ob1 (fX9_setOf p1 p2 p3 deeds sd ent st) (fun r_2 => (ob5 (fX9_splitsNow r_2 deeds sd ent st past nr) (fun r_3 deeds_1 st_1 past_1 nr_1 => (some (r_3, deeds_1, st_1, past_1, nr_1)))))) else (some (r_1, deeds, st, past, nr)))))
abbrev wX9_by (cI cZ cM cS : ClassId) (mo mst mpa mim mik mbi mbk mnr mia min mas mpr mfa mme mse : Nat) (deeds : Int32) (sd : Int32) (ent : Int32) (st : (Nat → Int32)) (past : (Nat → Int32)) (nr : (Nat → Int32)) : va_W := [(mo, .inr (9, [.ref mst, .ref mpa, .int deeds, .ref mim, .ref mik, .int sd, .ref mbi, .ref mbk, .int ent, .ref mnr, .ref mia, .ref min, .ref mas, .ref mpr, .ref mfa, .ref mme, .ref mse])), (mst, .inl (cI, 76, .inl st)), (mpa, .inl (cI, 1216, .inl past)), (mnr, .inl (cI, 12, .inl nr))]
set_option maxHeartbeats 4000000 in
set_option maxRecDepth 100000 in
theorem tX9_by (l : Launch) (D : va_G) (cI cZ cM cS : ClassId) (mo mst mpa mim mik mbi mbk mnr mia min mas mpr mfa mme mse : Nat) (deeds : Int32) (sd : Int32) (ent : Int32) (st : (Nat → Int32)) (past : (Nat → Int32)) (nr : (Nat → Int32)) (p1 : Int32) (p2 : Int32) (p3 : Int32) {r : Int32} {deeds' : Int32} {st' : (Nat → Int32)} {past' : (Nat → Int32)} {nr' : (Nat → Int32)} (hF : fX9_by p1 p2 p3 deeds sd ent st past nr = some (r, deeds', st', past', nr')) : zCW l yX9_by wsX9_by (zRm 4 95) D (zTy cI cZ cM cS) [.ref mo, .int p1, .int p2, .int p3] (wX9_by cI cZ cM cS mo mst mpa mim mik mbi mbk mnr mia min mas mpr mfa mme mse deeds sd ent st past nr) (wX9_by cI cZ cM cS mo mst mpa mim mik mbi mbk mnr mia min mas mpr mfa mme mse deeds' sd ent st' past' nr') (some (.int r)) := by
  unfold fX9_by at hF
  refine zCW_ofi (cc := cX9_by) (maxL := 5) (own := RX9) (by decide) rfl rfl (Nat.le_of_ble_eq_true rfl) (fun p e s m args below meth c Q ls A E hA hK hP hD hRet hS hl => ?_)
  refine zgen (fun H locs hP hS => ?_) hP hS
  have hl : lv_has ls 5 [(0, .ref mo), (1, .int p1), (2, .int p2), (3, .int p3)] := hl
  obtain ⟨hx, hb, hml, hown, hts⟩ := id E
  refine lv_aload_n (pc := 0) hx hb dX9_by_0 rfl (lv_at hl 0 rfl) ?_
  refine lv_iload_n (pc := 1) hx hb dX9_by_1 rfl (lv_at hl 1 rfl) ?_
  refine lv_iload_n (pc := 2) hx hb dX9_by_2 rfl (lv_at hl 2 rfl) ?_
  refine lv_iload_n (pc := 3) hx hb dX9_by_3 rfl (lv_at hl 3 rfl) ?_
  obtain ⟨r_1, hC1, hF⟩ := ob1_e hF
  refine zVr (pc := 4) (As := [.int p1, .int p2, .int p3]) (rest := []) E (tX9_askedBy l D cI cZ cM cS mo mst mpa mim mik mbi mbk mnr mia min mas mpr mfa mme mse deeds sd ent st p1 p2 p3 hC1) 3 gX9_by_X9_askedBy rfl rfl rfl (by decide +kernel) ⟨Nat.le_of_ble_eq_true rfl, Nat.le_of_ble_eq_true rfl⟩ hK hP [0, 1] rfl 0 9 rfl rfl rfl rfl hl.1 rfl (Nat.le_of_ble_eq_true rfl) dX9_by_4 ⟨Nat.zero_le _, Nat.zero_le _⟩ ?_
  refine lv_istore (lv' := [(4, .int r_1), (0, .ref mo), (1, .int p1), (2, .int p2), (3, .int p3)]) (pc := 7) hx hb dX9_by_7 hl (by decide) rfl (fun ls hl => ?_)
  refine lv_iload (pc := 9) hx hb dX9_by_9 (lv_at hl 0 rfl) ?_
  refine lv_if_eq (pc := 11) (tgt := 19) hx hb dX9_by_11 (by decide) (fun hc => ?_) (fun hc => ?_)
  · have hF := oif_t hF hc
    refine lv_aload_n (pc := 19) hx hb dX9_by_19 rfl (lv_at hl 1 rfl) ?_
    refine lv_aload_n (pc := 20) hx hb dX9_by_20 rfl (lv_at hl 1 rfl) ?_
    refine lv_iload_n (pc := 21) hx hb dX9_by_21 rfl (lv_at hl 2 rfl) ?_
    refine lv_iload_n (pc := 22) hx hb dX9_by_22 rfl (lv_at hl 3 rfl) ?_
    refine lv_iload_n (pc := 23) hx hb dX9_by_23 rfl (lv_at hl 4 rfl) ?_
    obtain ⟨r_2, hC2, hF⟩ := ob1_e hF
    refine zVr (pc := 24) (As := [.int p1, .int p2, .int p3]) (rest := [.ref mo]) E (tX9_setOf l D cI cZ cM cS mo mst mpa mim mik mbi mbk mnr mia min mas mpr mfa mme mse deeds sd ent st p1 p2 p3 hC2) 3 gX9_by_X9_setOf rfl rfl rfl (by decide +kernel) ⟨Nat.le_of_ble_eq_true rfl, Nat.le_of_ble_eq_true rfl⟩ hK hP [0, 1] rfl 0 9 rfl rfl rfl rfl hl.1 rfl (Nat.le_of_ble_eq_true rfl) dX9_by_24 ⟨Nat.zero_le _, Nat.zero_le _⟩ ?_
    obtain ⟨r_3, deeds_1, st_1, past_1, nr_1, hC3, hF⟩ := ob5_e hF
    refine zV (pc := 27) (As := [.int r_2]) (rest := []) (wr := []) (w2 := (wX9_by cI cZ cM cS mo mst mpa mim mik mbi mbk mnr mia min mas mpr mfa mme mse deeds_1 sd ent st_1 past_1 nr_1)) E (tX9_splitsNow l D cI cZ cM cS mo mst mpa mim mik mbi mbk mnr mia min mas mpr mfa mme mse deeds sd ent st past nr r_2 hC3) 1 gX9_by_X9_splitsNow rfl rfl rfl (by decide +kernel) ⟨Nat.le_of_ble_eq_true rfl, Nat.le_of_ble_eq_true rfl⟩ hK hP hD hS hA [0, 1, 2, 3] [] [0, 1, 2, 3] (by decide) rfl rfl (by decide) (by decide) rfl (by decide) 0 9 rfl rfl rfl rfl hl.1 rfl (Nat.le_of_ble_eq_true rfl) dX9_by_27 ⟨Nat.zero_le _, Nat.zero_le _⟩ (fun H locs hP hD hS => ?_)
    refine W.eq (g2 := F0 m 30 ls [.int r_3]) rfl ?_
    cases hF
    exact hRet _ _ _ _ rfl dX9_by_30 hP hD hS
  · have hF := oif_f hF hc
    refine lv_iload (pc := 14) hx hb dX9_by_14 (lv_at hl 0 rfl) ?_
    refine lv_goto (pc := 16) (tgt := 30) hx hb dX9_by_16 (by decide) ?_
    cases hF
    exact hRet _ _ _ _ rfl dX9_by_30 hP hD hS
def fX9_refine (p1 : Int32) (deeds : Int32) (sd : Int32) (ent : Int32) (st : (Nat → Int32)) (past : (Nat → Int32)) (nr : (Nat → Int32)) (ia : (Nat → Int32)) (inw : (Nat → Int32)) : Option (Int32 × Int32 × (Nat → Int32) × (Nat → Int32) × (Nat → Int32) × (Nat → Int32) × (Nat → Int32)) := (ob1 (fX9_in p1 (0 : Int32) (4 : Int32)) (fun r_1 => (if r_1 = (0 : Int32) then (some ((-1000000002 : Int32), deeds, st, past, nr, ia, inw)) else (ob2 (fX9_notes deeds sd ent st past) (fun deeds_1 past_1 => (ob4 (fX9_refines (64 : Int32) p1 deeds_1 sd ent st nr ia inw) (fun st_1 nr_1 ia_1 inw_1 => (ob1 (fX9_classes (64 : Int32) deeds_1 sd ent st_1) (fun r_2 => (some (r_2, deeds_1, st_1, past_1, nr_1, ia_1, inw_1)))))))))))
abbrev wX9_refine (cI cZ cM cS : ClassId) (mo mst mpa mim mik mbi mbk mnr mia min mas mpr mfa mme mse : Nat) (deeds : Int32) (sd : Int32) (ent : Int32) (st : (Nat → Int32)) (past : (Nat → Int32)) (nr : (Nat → Int32)) (ia : (Nat → Int32)) (inw : (Nat → Int32)) : va_W := [(mo, .inr (9, [.ref mst, .ref mpa, .int deeds, .ref mim, .ref mik, .int sd, .ref mbi, .ref mbk, .int ent, .ref mnr, .ref mia, .ref min, .ref mas, .ref mpr, .ref mfa, .ref mme, .ref mse])), (mst, .inl (cI, 76, .inl st)), (mpa, .inl (cI, 1216, .inl past)), (mnr, .inl (cI, 12, .inl nr)), (mia, .inl (cZ, 144, .inl ia)), (min, .inl (cZ, 144, .inl inw))]
set_option maxHeartbeats 4000000 in
set_option maxRecDepth 100000 in
theorem tX9_refine (l : Launch) (D : va_G) (cI cZ cM cS : ClassId) (mo mst mpa mim mik mbi mbk mnr mia min mas mpr mfa mme mse : Nat) (deeds : Int32) (sd : Int32) (ent : Int32) (st : (Nat → Int32)) (past : (Nat → Int32)) (nr : (Nat → Int32)) (ia : (Nat → Int32)) (inw : (Nat → Int32)) (p1 : Int32) {r : Int32} {deeds' : Int32} {st' : (Nat → Int32)} {past' : (Nat → Int32)} {nr' : (Nat → Int32)} {ia' : (Nat → Int32)} {inw' : (Nat → Int32)} (hF : fX9_refine p1 deeds sd ent st past nr ia inw = some (r, deeds', st', past', nr', ia', inw')) : zCW l yX9_refine wsX9_refine (zRm 5 122) D (zTy cI cZ cM cS) [.ref mo, .int p1] (wX9_refine cI cZ cM cS mo mst mpa mim mik mbi mbk mnr mia min mas mpr mfa mme mse deeds sd ent st past nr ia inw) (wX9_refine cI cZ cM cS mo mst mpa mim mik mbi mbk mnr mia min mas mpr mfa mme mse deeds' sd ent st' past' nr' ia' inw') (some (.int r)) := by
  unfold fX9_refine at hF
  refine zCW_ofi (cc := cX9_refine) (maxL := 2) (own := RX9) (by decide) rfl rfl (Nat.le_of_ble_eq_true rfl) (fun p e s m args below meth c Q ls A E hA hK hP hD hRet hS hl => ?_)
  refine zgen (fun H locs hP hS => ?_) hP hS
  have hl : lv_has ls 2 [(0, .ref mo), (1, .int p1)] := hl
  obtain ⟨hx, hb, hml, hown, hts⟩ := id E
  have inX9 : ∀ w ∈ u_ws RX9 TX9 17, w ∈ wsX9_refine := by decide +kernel
  have fl7 := hts (.fieldLink RX9 7 "SplitClassesModel" "st" "[I") (by decide +kernel)
  have cn94 := hts (.constant RX9 94 (-1000000002)) (by decide +kernel)
  refine lv_iload_n (pc := 0) hx hb dX9_refine_0 rfl (lv_at hl 1 rfl) ?_
  refine lv_iconst (v := (0 : Int32)) (pc := 1) hx hb dX9_refine_1 (by decide) ?_
  refine lv_iconst (v := (4 : Int32)) (pc := 2) hx hb dX9_refine_2 (by decide) ?_
  obtain ⟨r_1, hC1, hF⟩ := ob1_e hF
  refine zSr (pc := 3) (As := [.int p1, .int (0 : Int32), .int (4 : Int32)]) (rest := []) E (tX9_in l D cI cZ cM cS p1 (0 : Int32) (4 : Int32) hC1) 3 gX9_refine_X9_in rfl rfl rfl (by decide +kernel) ⟨Nat.le_of_ble_eq_true rfl, Nat.le_of_ble_eq_true rfl⟩ hK hP [] rfl rfl hl.1 rfl (Nat.le_of_ble_eq_true rfl) dX9_refine_3 ⟨Nat.zero_le _, Nat.zero_le _⟩ ?_
  refine lv_if_ne (pc := 6) (tgt := 12) hx hb dX9_refine_6 (by decide) (fun hc => ?_) (fun hc => ?_)
  · have hF := oif_f hF hc
    refine lv_aload_n (pc := 12) hx hb dX9_refine_12 rfl (lv_at hl 0 rfl) ?_
    obtain ⟨deeds_1, past_1, hC2, hF⟩ := ob2_e hF
    refine zV (pc := 13) (As := []) (rest := []) (wr := [(mnr, .inl (cI, 12, .inl nr)), (mia, .inl (cZ, 144, .inl ia)), (min, .inl (cZ, 144, .inl inw))]) (w2 := (wX9_refine cI cZ cM cS mo mst mpa mim mik mbi mbk mnr mia min mas mpr mfa mme mse deeds_1 sd ent st past_1 nr ia inw)) E (tX9_notes l D cI cZ cM cS mo mst mpa mim mik mbi mbk mnr mia min mas mpr mfa mme mse deeds sd ent st past hC2) 0 gX9_refine_X9_notes rfl rfl rfl (by decide +kernel) ⟨Nat.le_of_ble_eq_true rfl, Nat.le_of_ble_eq_true rfl⟩ hK hP hD hS hA [0, 1, 2] [3, 4, 5] [3, 4, 5, 0, 1, 2] (by decide) rfl rfl (by decide) (by decide) rfl (by decide) 0 9 rfl rfl rfl rfl hl.1 rfl (Nat.le_of_ble_eq_true rfl) dX9_refine_13 ⟨Nat.zero_le _, Nat.zero_le _⟩ (fun H locs hP hD hS => ?_)
    refine W.eq (g2 := F0 m 16 ls []) rfl ?_
    refine lv_aload_n (pc := 16) hx hb dX9_refine_16 rfl (lv_at hl 0 rfl) ?_
    refine lv_aload_n (pc := 17) hx hb dX9_refine_17 rfl (lv_at hl 0 rfl) ?_
    refine va_get (pc := 18) (ci := 9) (C := RX9) (T := TX9) (N := 17) hx hb hts inX9 hown hK hP 0 rfl rfl 0 (by decide) fl7 (fun _ h9 => h9) rfl dX9_refine_18 ?_
    refine lv_bipush (v := (64 : Int32)) (pc := 21) hx hb dX9_refine_21 (by decide) ?_
    refine lv_iload_n (pc := 23) hx hb dX9_refine_23 rfl (lv_at hl 1 rfl) ?_
    obtain ⟨st_1, nr_1, ia_1, inw_1, hC3, hF⟩ := ob4_e hF
    refine zV (pc := 24) (As := [.ref mst, .int (64 : Int32), .int p1]) (rest := []) (wr := [(mpa, .inl (cI, 1216, .inl past_1))]) (w2 := (wX9_refine cI cZ cM cS mo mst mpa mim mik mbi mbk mnr mia min mas mpr mfa mme mse deeds_1 sd ent st_1 past_1 nr_1 ia_1 inw_1)) E (tX9_refines l D cI cZ cM cS mo mst mpa mim mik mbi mbk mnr mia min mas mpr mfa mme mse deeds_1 sd ent st nr ia inw (64 : Int32) p1 hC3) 3 gX9_refine_X9_refines rfl rfl rfl (by decide +kernel) ⟨Nat.le_of_ble_eq_true rfl, Nat.le_of_ble_eq_true rfl⟩ hK hP hD hS hA [0, 1, 3, 4, 5] [2] [1, 2, 0, 3, 4, 5] (by decide) rfl rfl (by decide) (by decide) rfl (by decide) 0 9 rfl rfl rfl rfl hl.1 rfl (Nat.le_of_ble_eq_true rfl) dX9_refine_24 ⟨Nat.zero_le _, Nat.zero_le _⟩ (fun H locs hP hD hS => ?_)
    refine W.eq (g2 := F0 m 27 ls []) rfl ?_
    refine lv_aload_n (pc := 27) hx hb dX9_refine_27 rfl (lv_at hl 0 rfl) ?_
    refine lv_aload_n (pc := 28) hx hb dX9_refine_28 rfl (lv_at hl 0 rfl) ?_
    refine va_get (pc := 29) (ci := 9) (C := RX9) (T := TX9) (N := 17) hx hb hts inX9 hown hK hP 0 rfl rfl 0 (by decide) fl7 (fun _ h9 => h9) rfl dX9_refine_29 ?_
    refine lv_bipush (v := (64 : Int32)) (pc := 32) hx hb dX9_refine_32 (by decide) ?_
    obtain ⟨r_2, hC4, hF⟩ := ob1_e hF
    refine zVr (pc := 34) (As := [.ref mst, .int (64 : Int32)]) (rest := []) E (tX9_classes l D cI cZ cM cS mo mst mpa mim mik mbi mbk mnr mia min mas mpr mfa mme mse deeds_1 sd ent st_1 (64 : Int32) hC4) 2 gX9_refine_X9_classes rfl rfl rfl (by decide +kernel) ⟨Nat.le_of_ble_eq_true rfl, Nat.le_of_ble_eq_true rfl⟩ hK hP [0, 1] rfl 0 9 rfl rfl rfl rfl hl.1 rfl (Nat.le_of_ble_eq_true rfl) dX9_refine_34 ⟨Nat.zero_le _, Nat.zero_le _⟩ ?_
    cases hF
    exact hRet _ _ _ _ rfl dX9_refine_37 hP hD hS
  · have hF := oif_t hF hc
    refine lv_ldc (v := (-1000000002 : Int32)) (pc := 9) hx hb hown cn94 dX9_refine_9 ?_
    cases hF
    exact hRet _ _ _ _ rfl dX9_refine_11 hP hD hS
def fX9_join_b29 (p1 : Int32) (x2_2 : Int32) (st_2 : (Nat → Int32)) : Option ((Int32 × (Nat → Int32)) ⊕ ((Nat → Int32))) := (if (st_2 0) ≤ x2_2 then (some (.inr st_2)) else (ogd ((64 : Int32) + x2_2) 76 (ogd ((64 : Int32) + x2_2) 76 (ob1 (if (st_2 (Int32.toNatClampNeg ((64 : Int32) + x2_2))) ≤ p1 then (some (0 : Int32)) else (some (1 : Int32))) (fun z0_2 => (ogd ((64 : Int32) + x2_2) 76 (some (.inl ((x2_2 + (1 : Int32)), (upd st_2 (Int32.toNatClampNeg ((64 : Int32) + x2_2)) ((st_2 (Int32.toNatClampNeg ((64 : Int32) + x2_2))) - z0_2)))))))))))
def fX9_join_s29 (p1 : Int32) (sg_ : Int32 × (Nat → Int32)) : Option ((Int32 × (Nat → Int32)) ⊕ ((Nat → Int32))) := fX9_join_b29 p1 sg_.1 sg_.2
def fX9_join (p1 : Int32) (deeds : Int32) (sd : Int32) (ent : Int32) (st : (Nat → Int32)) (past : (Nat → Int32)) : Option (Int32 × Int32 × (Nat → Int32) × (Nat → Int32)) := (ob1 (fX9_classes (64 : Int32) deeds sd ent st) (fun r_1 => (ob1 (fX9_in p1 (0 : Int32) (r_1 - (2 : Int32))) (fun r_2 => (if r_2 = (0 : Int32) then (some ((-1000000001 : Int32), deeds, st, past)) else (ob2 (fX9_notes deeds sd ent st past) (fun deeds_1 past_1 => (ob1 (olp (fX9_join_s29 p1) oFu ((0 : Int32), st)) (fun st_3 => (ob1 (fX9_classes (64 : Int32) deeds_1 sd ent st_3) (fun r_3 => (some (r_3, deeds_1, st_3, past_1)))))))))))))
abbrev wX9_join (cI cZ cM cS : ClassId) (mo mst mpa mim mik mbi mbk mnr mia min mas mpr mfa mme mse : Nat) (deeds : Int32) (sd : Int32) (ent : Int32) (st : (Nat → Int32)) (past : (Nat → Int32)) : va_W := [(mo, .inr (9, [.ref mst, .ref mpa, .int deeds, .ref mim, .ref mik, .int sd, .ref mbi, .ref mbk, .int ent, .ref mnr, .ref mia, .ref min, .ref mas, .ref mpr, .ref mfa, .ref mme, .ref mse])), (mst, .inl (cI, 76, .inl st)), (mpa, .inl (cI, 1216, .inl past))]
set_option maxHeartbeats 4000000 in
set_option maxRecDepth 100000 in
theorem tX9_join (l : Launch) (D : va_G) (cI cZ cM cS : ClassId) (mo mst mpa mim mik mbi mbk mnr mia min mas mpr mfa mme mse : Nat) (deeds : Int32) (sd : Int32) (ent : Int32) (st : (Nat → Int32)) (past : (Nat → Int32)) (p1 : Int32) {r : Int32} {deeds' : Int32} {st' : (Nat → Int32)} {past' : (Nat → Int32)} (hF : fX9_join p1 deeds sd ent st past = some (r, deeds', st', past')) : zCW l yX9_join wsX9_join (zRm 2 45) D (zTy cI cZ cM cS) [.ref mo, .int p1] (wX9_join cI cZ cM cS mo mst mpa mim mik mbi mbk mnr mia min mas mpr mfa mme mse deeds sd ent st past) (wX9_join cI cZ cM cS mo mst mpa mim mik mbi mbk mnr mia min mas mpr mfa mme mse deeds' sd ent st' past') (some (.int r)) := by
  unfold fX9_join at hF
  refine zCW_ofi (cc := cX9_join) (maxL := 3) (own := RX9) (by decide) rfl rfl (Nat.le_of_ble_eq_true rfl) (fun p e s m args below meth c Q ls A E hA hK hP hD hRet hS hl => ?_)
  refine zgen (fun H locs hP hS => ?_) hP hS
  have hl : lv_has ls 3 [(0, .ref mo), (1, .int p1)] := hl
  obtain ⟨hx, hb, hml, hown, hts⟩ := id E
  have inX9 : ∀ w ∈ u_ws RX9 TX9 17, w ∈ wsX9_join := by decide +kernel
  have fl7 := hts (.fieldLink RX9 7 "SplitClassesModel" "st" "[I") (by decide +kernel)
  have cn93 := hts (.constant RX9 93 (-1000000001)) (by decide +kernel)
  refine lv_iload_n (pc := 0) hx hb dX9_join_0 rfl (lv_at hl 1 rfl) ?_
  refine lv_iconst (v := (0 : Int32)) (pc := 1) hx hb dX9_join_1 (by decide) ?_
  refine lv_aload_n (pc := 2) hx hb dX9_join_2 rfl (lv_at hl 0 rfl) ?_
  refine lv_aload_n (pc := 3) hx hb dX9_join_3 rfl (lv_at hl 0 rfl) ?_
  refine va_get (pc := 4) (ci := 9) (C := RX9) (T := TX9) (N := 17) hx hb hts inX9 hown hK hP 0 rfl rfl 0 (by decide) fl7 (fun _ h9 => h9) rfl dX9_join_4 ?_
  refine lv_bipush (v := (64 : Int32)) (pc := 7) hx hb dX9_join_7 (by decide) ?_
  obtain ⟨r_1, hC1, hF⟩ := ob1_e hF
  refine zVr (pc := 9) (As := [.ref mst, .int (64 : Int32)]) (rest := [.int (0 : Int32), .int p1]) E (tX9_classes l D cI cZ cM cS mo mst mpa mim mik mbi mbk mnr mia min mas mpr mfa mme mse deeds sd ent st (64 : Int32) hC1) 2 gX9_join_X9_classes rfl rfl rfl (by decide +kernel) ⟨Nat.le_of_ble_eq_true rfl, Nat.le_of_ble_eq_true rfl⟩ hK hP [0, 1] rfl 0 9 rfl rfl rfl rfl hl.1 rfl (Nat.le_of_ble_eq_true rfl) dX9_join_9 ⟨Nat.zero_le _, Nat.zero_le _⟩ ?_
  refine lv_iconst (v := (2 : Int32)) (pc := 12) hx hb dX9_join_12 (by decide) ?_
  refine lv_isub (pc := 13) hx hb dX9_join_13 ?_
  obtain ⟨r_2, hC2, hF⟩ := ob1_e hF
  refine zSr (pc := 14) (As := [.int p1, .int (0 : Int32), .int (r_1 - (2 : Int32))]) (rest := []) E (tX9_in l D cI cZ cM cS p1 (0 : Int32) (r_1 - (2 : Int32)) hC2) 3 gX9_join_X9_in rfl rfl rfl (by decide +kernel) ⟨Nat.le_of_ble_eq_true rfl, Nat.le_of_ble_eq_true rfl⟩ hK hP [] rfl rfl hl.1 rfl (Nat.le_of_ble_eq_true rfl) dX9_join_14 ⟨Nat.zero_le _, Nat.zero_le _⟩ ?_
  refine lv_if_ne (pc := 17) (tgt := 23) hx hb dX9_join_17 (by decide) (fun hc => ?_) (fun hc => ?_)
  · have hF := oif_f hF hc
    refine lv_aload_n (pc := 23) hx hb dX9_join_23 rfl (lv_at hl 0 rfl) ?_
    obtain ⟨deeds_1, past_1, hC3, hF⟩ := ob2_e hF
    refine zV (pc := 24) (As := []) (rest := []) (wr := []) (w2 := (wX9_join cI cZ cM cS mo mst mpa mim mik mbi mbk mnr mia min mas mpr mfa mme mse deeds_1 sd ent st past_1)) E (tX9_notes l D cI cZ cM cS mo mst mpa mim mik mbi mbk mnr mia min mas mpr mfa mme mse deeds sd ent st past hC3) 0 gX9_join_X9_notes rfl rfl rfl (by decide +kernel) ⟨Nat.le_of_ble_eq_true rfl, Nat.le_of_ble_eq_true rfl⟩ hK hP hD hS hA [0, 1, 2] [] [0, 1, 2] (by decide) rfl rfl (by decide) (by decide) rfl (by decide) 0 9 rfl rfl rfl rfl hl.1 rfl (Nat.le_of_ble_eq_true rfl) dX9_join_24 ⟨Nat.zero_le _, Nat.zero_le _⟩ (fun H locs hP hD hS => ?_)
    refine W.eq (g2 := F0 m 27 ls []) rfl ?_
    refine lv_iconst (v := (0 : Int32)) (pc := 27) hx hb dX9_join_27 (by decide) ?_
    refine lv_istore_n (lv' := [(2, .int (0 : Int32)), (0, .ref mo), (1, .int p1)]) (pc := 28) hx hb dX9_join_28 rfl hl (by decide) rfl (fun ls hl => ?_)
    obtain ⟨st_3, hL8, hF⟩ := ob1_e hF
    have ex8 : ∀ (H : Heap) (locs : List Loc) (ls : Array Slot), va_P D vwCl (wX9_join cI cZ cM cS mo mst mpa mim mik mbi mbk mnr mia min mas mpr mfa mme mse deeds_1 sd ent st_3 past_1) H → va_D A (wX9_join cI cZ cM cS mo mst mpa mim mik mbi mbk mnr mia min mas mpr mfa mme mse deeds_1 sd ent st_3 past_1) → va_S A s.heap H locs → lv_has ls 3 [(0, .ref mo)] → W p l e (zRm 2 45) s m args below meth c H locs 0 0 Q (F0 m 75 ls []) := by
      intro H locs ls hP hD hS hl
      refine lv_aload_n (pc := 75) hx hb dX9_join_75 rfl (lv_at hl 0 rfl) ?_
      refine lv_aload_n (pc := 76) hx hb dX9_join_76 rfl (lv_at hl 0 rfl) ?_
      refine va_get (pc := 77) (ci := 9) (C := RX9) (T := TX9) (N := 17) hx hb hts inX9 hown hK hP 0 rfl rfl 0 (by decide) fl7 (fun _ h9 => h9) rfl dX9_join_77 ?_
      refine lv_bipush (v := (64 : Int32)) (pc := 80) hx hb dX9_join_80 (by decide) ?_
      obtain ⟨r_3, hC13, hF⟩ := ob1_e hF
      refine zVr (pc := 82) (As := [.ref mst, .int (64 : Int32)]) (rest := []) E (tX9_classes l D cI cZ cM cS mo mst mpa mim mik mbi mbk mnr mia min mas mpr mfa mme mse deeds_1 sd ent st_3 (64 : Int32) hC13) 2 gX9_join_X9_classes rfl rfl rfl (by decide +kernel) ⟨Nat.le_of_ble_eq_true rfl, Nat.le_of_ble_eq_true rfl⟩ hK hP [0, 1] rfl 0 9 rfl rfl rfl rfl hl.1 rfl (Nat.le_of_ble_eq_true rfl) dX9_join_82 ⟨Nat.zero_le _, Nat.zero_le _⟩ ?_
      cases hF
      exact hRet _ _ _ _ rfl dX9_join_85 hP hD hS
    have lp8 : ∀ (n : Nat) (x2_2 : Int32) (st_2 : (Nat → Int32)) (H : Heap) (locs : List Loc) (ls : Array Slot), olp (fX9_join_s29 p1) n (x2_2, st_2) = some st_3 → va_P D vwCl (wX9_join cI cZ cM cS mo mst mpa mim mik mbi mbk mnr mia min mas mpr mfa mme mse deeds_1 sd ent st_2 past_1) H → va_D A (wX9_join cI cZ cM cS mo mst mpa mim mik mbi mbk mnr mia min mas mpr mfa mme mse deeds_1 sd ent st_2 past_1) → va_S A s.heap H locs → lv_has ls 3 [(2, .int x2_2), (0, .ref mo), (1, .int p1)] → W p l e (zRm 2 45) s m args below meth c H locs 0 0 Q (F0 m 29 ls []) := by
      intro n
      induction n with
      | zero => intro x2_2 st_2 H locs ls hL; exact olp_0 hL
      | succ n ih =>
        intro x2_2 st_2 H locs ls hL8 hP hD hS hl
        obtain ⟨z, hz8, hL8⟩ := olp_e hL8
        have hz8 : fX9_join_b29 p1 x2_2 st_2 = some z := hz8
        unfold fX9_join_b29 at hz8
        refine lv_iload_n (pc := 29) hx hb dX9_join_29 rfl (lv_at hl 0 rfl) ?_
        refine lv_aload_n (pc := 30) hx hb dX9_join_30 rfl (lv_at hl 1 rfl) ?_
        refine va_get (pc := 31) (ci := 9) (C := RX9) (T := TX9) (N := 17) hx hb hts inX9 hown hK hP 0 rfl rfl 0 (by decide) fl7 (fun _ h9 => h9) rfl dX9_join_31 ?_
        refine lv_iconst (v := (0 : Int32)) (pc := 34) hx hb dX9_join_34 (by decide) ?_
        refine z_iald (pc := 35) (k := 0) hx hb hK hP 1 0 rfl rfl (by decide) (by decide) dX9_join_35 ?_
        refine lv_icmp_ge (pc := 36) (tgt := 75) hx hb dX9_join_36 (by decide) (fun hc => ?_) (fun hc => ?_)
        · have hz8 := oif_t hz8 hc
          have hE := olp_r hz8 hL8
          cases hE
          exact ex8 _ _ _ hP hD hS (lv_sub hl [1] rfl)
        · have hz8 := oif_f hz8 hc
          refine lv_aload_n (pc := 39) hx hb dX9_join_39 rfl (lv_at hl 1 rfl) ?_
          refine va_get (pc := 40) (ci := 9) (C := RX9) (T := TX9) (N := 17) hx hb hts inX9 hown hK hP 0 rfl rfl 0 (by decide) fl7 (fun _ h9 => h9) rfl dX9_join_40 ?_
          refine lv_bipush (v := (64 : Int32)) (pc := 43) hx hb dX9_join_43 (by decide) ?_
          refine lv_iload_n (pc := 45) hx hb dX9_join_45 rfl (lv_at hl 0 rfl) ?_
          refine lv_iadd (pc := 46) hx hb dX9_join_46 ?_
          refine lv_dup2_11 (pc := 47) hx hb dX9_join_47 rfl rfl ?_
          obtain ⟨hg9, hz8⟩ := ogd_e hz8
          refine va_iald (pc := 48) hx hb hK hP 1 0 rfl rfl hg9 dX9_join_48 ?_
          refine lv_aload_n (pc := 49) hx hb dX9_join_49 rfl (lv_at hl 1 rfl) ?_
          refine va_get (pc := 50) (ci := 9) (C := RX9) (T := TX9) (N := 17) hx hb hts inX9 hown hK hP 0 rfl rfl 0 (by decide) fl7 (fun _ h9 => h9) rfl dX9_join_50 ?_
          refine lv_bipush (v := (64 : Int32)) (pc := 53) hx hb dX9_join_53 (by decide) ?_
          refine lv_iload_n (pc := 55) hx hb dX9_join_55 rfl (lv_at hl 0 rfl) ?_
          refine lv_iadd (pc := 56) hx hb dX9_join_56 ?_
          obtain ⟨hg10, hz8⟩ := ogd_e hz8
          refine va_iald (pc := 57) hx hb hK hP 1 0 rfl rfl hg10 dX9_join_57 ?_
          refine lv_iload_n (pc := 58) hx hb dX9_join_58 rfl (lv_at hl 2 rfl) ?_
          obtain ⟨z0_2, hM11, hz8⟩ := ob1_e hz8
          have jn11 : ∀ (H : Heap) (locs : List Loc) (ls : Array Slot), va_P D vwCl (wX9_join cI cZ cM cS mo mst mpa mim mik mbi mbk mnr mia min mas mpr mfa mme mse deeds_1 sd ent st_2 past_1) H → va_D A (wX9_join cI cZ cM cS mo mst mpa mim mik mbi mbk mnr mia min mas mpr mfa mme mse deeds_1 sd ent st_2 past_1) → va_S A s.heap H locs → lv_has ls 3 [(2, .int x2_2), (0, .ref mo), (1, .int p1)] → W p l e (zRm 2 45) s m args below meth c H locs 0 0 Q (F0 m 67 ls [.int z0_2, .int (st_2 (Int32.toNatClampNeg ((64 : Int32) + x2_2))), .int ((64 : Int32) + x2_2), .ref mst]) := by
            intro H locs ls hP hD hS hl
            refine lv_isub (pc := 67) hx hb dX9_join_67 ?_
            obtain ⟨hg12, hz8⟩ := ogd_e hz8
            refine va_iast (pc := 68) hx hb hK hP hD hS 1 0 rfl rfl hg12 dX9_join_68 (fun H locs hP hD hS => ?_)
            have hP : va_P D vwCl (wX9_join cI cZ cM cS mo mst mpa mim mik mbi mbk mnr mia min mas mpr mfa mme mse deeds_1 sd ent (upd st_2 (Int32.toNatClampNeg ((64 : Int32) + x2_2)) ((st_2 (Int32.toNatClampNeg ((64 : Int32) + x2_2))) - z0_2)) past_1) H := hP
            have hD : va_D A (wX9_join cI cZ cM cS mo mst mpa mim mik mbi mbk mnr mia min mas mpr mfa mme mse deeds_1 sd ent (upd st_2 (Int32.toNatClampNeg ((64 : Int32) + x2_2)) ((st_2 (Int32.toNatClampNeg ((64 : Int32) + x2_2))) - z0_2)) past_1) := hD
            refine lv_iinc (v := (x2_2 + (1 : Int32))) (lv' := [(2, .int (x2_2 + (1 : Int32))), (0, .ref mo), (1, .int p1)]) (pc := 69) hx hb dX9_join_69 hl (k := 0) rfl rfl (by decide) rfl (fun ls hl => ?_)
            refine lv_goto (pc := 72) (tgt := 29) hx hb dX9_join_72 (by decide) ?_
            exact ih _ _ _ _ _ (olp_l hz8 hL8) hP hD hS (lv_sub hl [0, 1, 2] rfl)
          refine lv_icmp_le (pc := 59) (tgt := 66) hx hb dX9_join_59 (by decide) (fun hc => ?_) (fun hc => ?_)
          · have hM11 := oif_t hM11 hc
            refine lv_iconst (v := (0 : Int32)) (pc := 66) hx hb dX9_join_66 (by decide) ?_
            cases hM11
            exact jn11 _ _ _ hP hD hS (lv_sub hl [0, 1, 2] rfl)
          · have hM11 := oif_f hM11 hc
            refine lv_iconst (v := (1 : Int32)) (pc := 62) hx hb dX9_join_62 (by decide) ?_
            refine lv_goto (pc := 63) (tgt := 67) hx hb dX9_join_63 (by decide) ?_
            cases hM11
            exact jn11 _ _ _ hP hD hS (lv_sub hl [0, 1, 2] rfl)
    exact lp8 oFu _ _ _ _ _ hL8 hP hD hS (lv_sub hl [0, 1, 2] rfl)
  · have hF := oif_t hF hc
    refine lv_ldc (v := (-1000000001 : Int32)) (pc := 20) hx hb hown cn93 dX9_join_20 ?_
    cases hF
    exact hRet _ _ _ _ rfl dX9_join_22 hP hD hS
def fX9_arrange_b34 (deeds_1 : Int32) (sd : Int32) (ent : Int32) (st_1 : (Nat → Int32)) (asd_1 : (Nat → Int32)) (x2_2 : Int32) (x1_2 : Int32) : Option ((Int32 × Int32) ⊕ (Int32)) := (ob1 (fX9_classes (64 : Int32) deeds_1 sd ent st_1) (fun r_4 => (if r_4 ≤ x2_2 then (some (.inr x1_2)) else (ob1 (fX9_membersOf (64 : Int32) x2_2 deeds_1 sd ent st_1) (fun r_5 => (ob1 (fX9_leastOf r_5 deeds_1 sd ent) (fun r_6 => (ogd r_6 12 (if (asd_1 (Int32.toNatClampNeg r_6)) = x2_2 then (some (.inl ((x2_2 + (1 : Int32)), (x1_2 + (0 : Int32))))) else (some (.inl ((x2_2 + (1 : Int32)), (x1_2 + (1 : Int32))))))))))))))
def fX9_arrange_s34 (deeds_1 : Int32) (sd : Int32) (ent : Int32) (st_1 : (Nat → Int32)) (asd_1 : (Nat → Int32)) (sg_ : Int32 × Int32) : Option ((Int32 × Int32) ⊕ (Int32)) := fX9_arrange_b34 deeds_1 sd ent st_1 asd_1 sg_.1 sg_.2
def fX9_arrange (deeds : Int32) (sd : Int32) (ent : Int32) (st : (Nat → Int32)) (past : (Nat → Int32)) (nr : (Nat → Int32)) (asd : (Nat → Int32)) : Option (Int32 × Int32 × (Nat → Int32) × (Nat → Int32) × (Nat → Int32) × (Nat → Int32)) := (ob2 (fX9_notes deeds sd ent st past) (fun deeds_1 past_1 => (ob1 (fX9_bring 76 12 (64 : Int32) (0 : Int32) (12 : Int32) st asd) (fun asd_1 => (ob2 (fX9_arranges (64 : Int32) deeds_1 sd ent st nr) (fun st_1 nr_1 => (ob1 (olp (fX9_arrange_s34 deeds_1 sd ent st_1 asd_1) oFu ((0 : Int32), (0 : Int32))) (fun x1_3 => (some (x1_3, deeds_1, st_1, past_1, nr_1, asd_1))))))))))
abbrev wX9_arrange (cI cZ cM cS : ClassId) (mo mst mpa mim mik mbi mbk mnr mia min mas mpr mfa mme mse : Nat) (deeds : Int32) (sd : Int32) (ent : Int32) (st : (Nat → Int32)) (past : (Nat → Int32)) (nr : (Nat → Int32)) (asd : (Nat → Int32)) : va_W := [(mo, .inr (9, [.ref mst, .ref mpa, .int deeds, .ref mim, .ref mik, .int sd, .ref mbi, .ref mbk, .int ent, .ref mnr, .ref mia, .ref min, .ref mas, .ref mpr, .ref mfa, .ref mme, .ref mse])), (mst, .inl (cI, 76, .inl st)), (mpa, .inl (cI, 1216, .inl past)), (mnr, .inl (cI, 12, .inl nr)), (mas, .inl (cI, 12, .inl asd))]
set_option maxHeartbeats 4000000 in
set_option maxRecDepth 100000 in
theorem tX9_arrange (l : Launch) (D : va_G) (cI cZ cM cS : ClassId) (mo mst mpa mim mik mbi mbk mnr mia min mas mpr mfa mme mse : Nat) (deeds : Int32) (sd : Int32) (ent : Int32) (st : (Nat → Int32)) (past : (Nat → Int32)) (nr : (Nat → Int32)) (asd : (Nat → Int32)) {r : Int32} {deeds' : Int32} {st' : (Nat → Int32)} {past' : (Nat → Int32)} {nr' : (Nat → Int32)} {asd' : (Nat → Int32)} (hF : fX9_arrange deeds sd ent st past nr asd = some (r, deeds', st', past', nr', asd')) : zCW l yX9_arrange wsX9_arrange (zRm 3 71) D (zTy cI cZ cM cS) [.ref mo] (wX9_arrange cI cZ cM cS mo mst mpa mim mik mbi mbk mnr mia min mas mpr mfa mme mse deeds sd ent st past nr asd) (wX9_arrange cI cZ cM cS mo mst mpa mim mik mbi mbk mnr mia min mas mpr mfa mme mse deeds' sd ent st' past' nr' asd') (some (.int r)) := by
  unfold fX9_arrange at hF
  refine zCW_ofi (cc := cX9_arrange) (maxL := 4) (own := RX9) (by decide) rfl rfl (Nat.le_of_ble_eq_true rfl) (fun p e s m args below meth c Q ls A E hA hK hP hD hRet hS hl => ?_)
  refine zgen (fun H locs hP hS => ?_) hP hS
  have hl : lv_has ls 4 [(0, .ref mo)] := hl
  obtain ⟨hx, hb, hml, hown, hts⟩ := id E
  have inX9 : ∀ w ∈ u_ws RX9 TX9 17, w ∈ wsX9_arrange := by decide +kernel
  have fl38 := hts (.fieldLink RX9 38 "SplitClassesModel" "aside" "[I") (by decide +kernel)
  have fl7 := hts (.fieldLink RX9 7 "SplitClassesModel" "st" "[I") (by decide +kernel)
  refine lv_aload_n (pc := 0) hx hb dX9_arrange_0 rfl (lv_at hl 0 rfl) ?_
  obtain ⟨deeds_1, past_1, hC1, hF⟩ := ob2_e hF
  refine zV (pc := 1) (As := []) (rest := []) (wr := [(mnr, .inl (cI, 12, .inl nr)), (mas, .inl (cI, 12, .inl asd))]) (w2 := (wX9_arrange cI cZ cM cS mo mst mpa mim mik mbi mbk mnr mia min mas mpr mfa mme mse deeds_1 sd ent st past_1 nr asd)) E (tX9_notes l D cI cZ cM cS mo mst mpa mim mik mbi mbk mnr mia min mas mpr mfa mme mse deeds sd ent st past hC1) 0 gX9_arrange_X9_notes rfl rfl rfl (by decide +kernel) ⟨Nat.le_of_ble_eq_true rfl, Nat.le_of_ble_eq_true rfl⟩ hK hP hD hS hA [0, 1, 2] [3, 4] [2, 3, 4, 0, 1] (by decide) rfl rfl (by decide) (by decide) rfl (by decide) 0 9 rfl rfl rfl rfl hl.1 rfl (Nat.le_of_ble_eq_true rfl) dX9_arrange_1 ⟨Nat.zero_le _, Nat.zero_le _⟩ (fun H locs hP hD hS => ?_)
  refine W.eq (g2 := F0 m 4 ls []) rfl ?_
  refine lv_aload_n (pc := 4) hx hb dX9_arrange_4 rfl (lv_at hl 0 rfl) ?_
  refine va_get (pc := 5) (ci := 9) (C := RX9) (T := TX9) (N := 17) hx hb hts inX9 hown hK hP 0 rfl rfl 0 (by decide) fl7 (fun _ h9 => h9) rfl dX9_arrange_5 ?_
  refine lv_bipush (v := (64 : Int32)) (pc := 8) hx hb dX9_arrange_8 (by decide) ?_
  refine lv_aload_n (pc := 10) hx hb dX9_arrange_10 rfl (lv_at hl 0 rfl) ?_
  refine va_get (pc := 11) (ci := 9) (C := RX9) (T := TX9) (N := 17) hx hb hts inX9 hown hK hP 0 rfl rfl 12 (by decide) fl38 (fun _ h9 => h9) rfl dX9_arrange_11 ?_
  refine lv_iconst (v := (0 : Int32)) (pc := 14) hx hb dX9_arrange_14 (by decide) ?_
  refine lv_bipush (v := (12 : Int32)) (pc := 15) hx hb dX9_arrange_15 (by decide) ?_
  obtain ⟨asd_1, hC2, hF⟩ := ob1_e hF
  refine zS (pc := 17) (As := [.ref mst, .int (64 : Int32), .ref mas, .int (0 : Int32), .int (12 : Int32)]) (rest := []) (wr := [(mo, .inr (9, [.ref mst, .ref mpa, .int deeds_1, .ref mim, .ref mik, .int sd, .ref mbi, .ref mbk, .int ent, .ref mnr, .ref mia, .ref min, .ref mas, .ref mpr, .ref mfa, .ref mme, .ref mse])), (mpa, .inl (cI, 1216, .inl past_1)), (mnr, .inl (cI, 12, .inl nr))]) (w2 := (wX9_arrange cI cZ cM cS mo mst mpa mim mik mbi mbk mnr mia min mas mpr mfa mme mse deeds_1 sd ent st past_1 nr asd_1)) E (tX9_bring l D cI cZ cM cS mst mas 76 12 st asd (64 : Int32) (0 : Int32) (12 : Int32) hC2) 5 gX9_arrange_X9_bring rfl rfl rfl (by decide +kernel) ⟨Nat.le_of_ble_eq_true rfl, Nat.le_of_ble_eq_true rfl⟩ hK hP hD hS hA [1, 4] [0, 2, 3] [0, 3, 1, 2, 4] (by decide) rfl rfl (by decide) (by decide) rfl (by decide) rfl hl.1 rfl (Nat.le_of_ble_eq_true rfl) dX9_arrange_17 ⟨Nat.zero_le _, Nat.zero_le _⟩ (fun H locs hP hD hS => ?_)
  refine W.eq (g2 := F0 m 20 ls []) rfl ?_
  refine lv_aload_n (pc := 20) hx hb dX9_arrange_20 rfl (lv_at hl 0 rfl) ?_
  refine lv_aload_n (pc := 21) hx hb dX9_arrange_21 rfl (lv_at hl 0 rfl) ?_
  refine va_get (pc := 22) (ci := 9) (C := RX9) (T := TX9) (N := 17) hx hb hts inX9 hown hK hP 0 rfl rfl 0 (by decide) fl7 (fun _ h9 => h9) rfl dX9_arrange_22 ?_
  refine lv_bipush (v := (64 : Int32)) (pc := 25) hx hb dX9_arrange_25 (by decide) ?_
  obtain ⟨st_1, nr_1, hC3, hF⟩ := ob2_e hF
  refine zV (pc := 27) (As := [.ref mst, .int (64 : Int32)]) (rest := []) (wr := [(mpa, .inl (cI, 1216, .inl past_1)), (mas, .inl (cI, 12, .inl asd_1))]) (w2 := (wX9_arrange cI cZ cM cS mo mst mpa mim mik mbi mbk mnr mia min mas mpr mfa mme mse deeds_1 sd ent st_1 past_1 nr_1 asd_1)) E (tX9_arranges l D cI cZ cM cS mo mst mpa mim mik mbi mbk mnr mia min mas mpr mfa mme mse deeds_1 sd ent st nr (64 : Int32) hC3) 2 gX9_arrange_X9_arranges rfl rfl rfl (by decide +kernel) ⟨Nat.le_of_ble_eq_true rfl, Nat.le_of_ble_eq_true rfl⟩ hK hP hD hS hA [0, 1, 3] [2, 4] [2, 3, 0, 4, 1] (by decide) rfl rfl (by decide) (by decide) rfl (by decide) 0 9 rfl rfl rfl rfl hl.1 rfl (Nat.le_of_ble_eq_true rfl) dX9_arrange_27 ⟨Nat.zero_le _, Nat.zero_le _⟩ (fun H locs hP hD hS => ?_)
  refine W.eq (g2 := F0 m 30 ls []) rfl ?_
  refine lv_iconst (v := (0 : Int32)) (pc := 30) hx hb dX9_arrange_30 (by decide) ?_
  refine lv_istore_n (lv' := [(1, .int (0 : Int32)), (0, .ref mo)]) (pc := 31) hx hb dX9_arrange_31 rfl hl (by decide) rfl (fun ls hl => ?_)
  refine lv_iconst (v := (0 : Int32)) (pc := 32) hx hb dX9_arrange_32 (by decide) ?_
  refine lv_istore_n (lv' := [(2, .int (0 : Int32)), (1, .int (0 : Int32)), (0, .ref mo)]) (pc := 33) hx hb dX9_arrange_33 rfl hl (by decide) rfl (fun ls hl => ?_)
  obtain ⟨x1_3, hL8, hF⟩ := ob1_e hF
  have ex8 : ∀ (H : Heap) (locs : List Loc) (ls : Array Slot), va_P D vwCl (wX9_arrange cI cZ cM cS mo mst mpa mim mik mbi mbk mnr mia min mas mpr mfa mme mse deeds_1 sd ent st_1 past_1 nr_1 asd_1) H → va_D A (wX9_arrange cI cZ cM cS mo mst mpa mim mik mbi mbk mnr mia min mas mpr mfa mme mse deeds_1 sd ent st_1 past_1 nr_1 asd_1) → va_S A s.heap H locs → lv_has ls 4 [(1, .int x1_3)] → W p l e (zRm 3 71) s m args below meth c H locs 0 0 Q (F0 m 88 ls []) := by
    intro H locs ls hP hD hS hl
    refine lv_iload_n (pc := 88) hx hb dX9_arrange_88 rfl (lv_at hl 0 rfl) ?_
    cases hF
    exact hRet _ _ _ _ rfl dX9_arrange_89 hP hD hS
  have lp8 : ∀ (n : Nat) (x2_2 : Int32) (x1_2 : Int32) (H : Heap) (locs : List Loc) (ls : Array Slot), olp (fX9_arrange_s34 deeds_1 sd ent st_1 asd_1) n (x2_2, x1_2) = some x1_3 → va_P D vwCl (wX9_arrange cI cZ cM cS mo mst mpa mim mik mbi mbk mnr mia min mas mpr mfa mme mse deeds_1 sd ent st_1 past_1 nr_1 asd_1) H → va_D A (wX9_arrange cI cZ cM cS mo mst mpa mim mik mbi mbk mnr mia min mas mpr mfa mme mse deeds_1 sd ent st_1 past_1 nr_1 asd_1) → va_S A s.heap H locs → lv_has ls 4 [(2, .int x2_2), (1, .int x1_2), (0, .ref mo)] → W p l e (zRm 3 71) s m args below meth c H locs 0 0 Q (F0 m 34 ls []) := by
    intro n
    induction n with
    | zero => intro x2_2 x1_2 H locs ls hL; exact olp_0 hL
    | succ n ih =>
      intro x2_2 x1_2 H locs ls hL8 hP hD hS hl
      obtain ⟨z, hz8, hL8⟩ := olp_e hL8
      have hz8 : fX9_arrange_b34 deeds_1 sd ent st_1 asd_1 x2_2 x1_2 = some z := hz8
      unfold fX9_arrange_b34 at hz8
      refine lv_iload_n (pc := 34) hx hb dX9_arrange_34 rfl (lv_at hl 0 rfl) ?_
      refine lv_aload_n (pc := 35) hx hb dX9_arrange_35 rfl (lv_at hl 2 rfl) ?_
      refine lv_aload_n (pc := 36) hx hb dX9_arrange_36 rfl (lv_at hl 2 rfl) ?_
      refine va_get (pc := 37) (ci := 9) (C := RX9) (T := TX9) (N := 17) hx hb hts inX9 hown hK hP 0 rfl rfl 0 (by decide) fl7 (fun _ h9 => h9) rfl dX9_arrange_37 ?_
      refine lv_bipush (v := (64 : Int32)) (pc := 40) hx hb dX9_arrange_40 (by decide) ?_
      obtain ⟨r_4, hC9, hz8⟩ := ob1_e hz8
      refine zVr (pc := 42) (As := [.ref mst, .int (64 : Int32)]) (rest := [.int x2_2]) E (tX9_classes l D cI cZ cM cS mo mst mpa mim mik mbi mbk mnr mia min mas mpr mfa mme mse deeds_1 sd ent st_1 (64 : Int32) hC9) 2 gX9_arrange_X9_classes rfl rfl rfl (by decide +kernel) ⟨Nat.le_of_ble_eq_true rfl, Nat.le_of_ble_eq_true rfl⟩ hK hP [0, 1] rfl 0 9 rfl rfl rfl rfl hl.1 rfl (Nat.le_of_ble_eq_true rfl) dX9_arrange_42 ⟨Nat.zero_le _, Nat.zero_le _⟩ ?_
      refine lv_icmp_ge (pc := 45) (tgt := 88) hx hb dX9_arrange_45 (by decide) (fun hc => ?_) (fun hc => ?_)
      · have hz8 := oif_t hz8 hc
        have hE := olp_r hz8 hL8
        cases hE
        exact ex8 _ _ _ hP hD hS (lv_sub hl [1] rfl)
      · have hz8 := oif_f hz8 hc
        refine lv_aload_n (pc := 48) hx hb dX9_arrange_48 rfl (lv_at hl 2 rfl) ?_
        refine lv_aload_n (pc := 49) hx hb dX9_arrange_49 rfl (lv_at hl 2 rfl) ?_
        refine lv_aload_n (pc := 50) hx hb dX9_arrange_50 rfl (lv_at hl 2 rfl) ?_
        refine va_get (pc := 51) (ci := 9) (C := RX9) (T := TX9) (N := 17) hx hb hts inX9 hown hK hP 0 rfl rfl 0 (by decide) fl7 (fun _ h9 => h9) rfl dX9_arrange_51 ?_
        refine lv_bipush (v := (64 : Int32)) (pc := 54) hx hb dX9_arrange_54 (by decide) ?_
        refine lv_iload_n (pc := 56) hx hb dX9_arrange_56 rfl (lv_at hl 0 rfl) ?_
        obtain ⟨r_5, hC10, hz8⟩ := ob1_e hz8
        refine zVr (pc := 57) (As := [.ref mst, .int (64 : Int32), .int x2_2]) (rest := [.ref mo]) E (tX9_membersOf l D cI cZ cM cS mo mst mpa mim mik mbi mbk mnr mia min mas mpr mfa mme mse deeds_1 sd ent st_1 (64 : Int32) x2_2 hC10) 3 gX9_arrange_X9_membersOf rfl rfl rfl (by decide +kernel) ⟨Nat.le_of_ble_eq_true rfl, Nat.le_of_ble_eq_true rfl⟩ hK hP [0, 1] rfl 0 9 rfl rfl rfl rfl hl.1 rfl (Nat.le_of_ble_eq_true rfl) dX9_arrange_57 ⟨Nat.zero_le _, Nat.zero_le _⟩ ?_
        obtain ⟨r_6, hC11, hz8⟩ := ob1_e hz8
        refine zVr (pc := 60) (As := [.int r_5]) (rest := []) E (tX9_leastOf l D cI cZ cM cS mo mst mpa mim mik mbi mbk mnr mia min mas mpr mfa mme mse deeds_1 sd ent r_5 hC11) 1 gX9_arrange_X9_leastOf rfl rfl rfl (by decide +kernel) ⟨Nat.le_of_ble_eq_true rfl, Nat.le_of_ble_eq_true rfl⟩ hK hP [0] rfl 0 9 rfl rfl rfl rfl hl.1 rfl (Nat.le_of_ble_eq_true rfl) dX9_arrange_60 ⟨Nat.zero_le _, Nat.zero_le _⟩ ?_
        refine lv_istore_n (lv' := [(3, .int r_6), (2, .int x2_2), (1, .int x1_2), (0, .ref mo)]) (pc := 63) hx hb dX9_arrange_63 rfl hl (by decide) rfl (fun ls hl => ?_)
        refine lv_iload_n (pc := 64) hx hb dX9_arrange_64 rfl (lv_at hl 2 rfl) ?_
        refine lv_aload_n (pc := 65) hx hb dX9_arrange_65 rfl (lv_at hl 3 rfl) ?_
        refine va_get (pc := 66) (ci := 9) (C := RX9) (T := TX9) (N := 17) hx hb hts inX9 hown hK hP 0 rfl rfl 12 (by decide) fl38 (fun _ h9 => h9) rfl dX9_arrange_66 ?_
        refine lv_iload_n (pc := 69) hx hb dX9_arrange_69 rfl (lv_at hl 0 rfl) ?_
        obtain ⟨hg12, hz8⟩ := ogd_e hz8
        refine va_iald (pc := 70) hx hb hK hP 4 0 rfl rfl hg12 dX9_arrange_70 ?_
        refine lv_iload_n (pc := 71) hx hb dX9_arrange_71 rfl (lv_at hl 1 rfl) ?_
        refine lv_icmp_ne (pc := 72) (tgt := 79) hx hb dX9_arrange_72 (by decide) (fun hc => ?_) (fun hc => ?_)
        · have hz8 := oif_f hz8 hc
          refine lv_iconst (v := (1 : Int32)) (pc := 79) hx hb dX9_arrange_79 (by decide) ?_
          refine lv_iadd (pc := 80) hx hb dX9_arrange_80 ?_
          refine lv_istore_n (lv' := [(1, .int (x1_2 + (1 : Int32))), (3, .int r_6), (2, .int x2_2), (0, .ref mo)]) (pc := 81) hx hb dX9_arrange_81 rfl hl (by decide) rfl (fun ls hl => ?_)
          refine lv_iinc (v := (x2_2 + (1 : Int32))) (lv' := [(2, .int (x2_2 + (1 : Int32))), (1, .int (x1_2 + (1 : Int32))), (3, .int r_6), (0, .ref mo)]) (pc := 82) hx hb dX9_arrange_82 hl (k := 2) rfl rfl (by decide) rfl (fun ls hl => ?_)
          refine lv_goto (pc := 85) (tgt := 34) hx hb dX9_arrange_85 (by decide) ?_
          exact ih _ _ _ _ _ (olp_l hz8 hL8) hP hD hS (lv_sub hl [0, 1, 3] rfl)
        · have hz8 := oif_t hz8 hc
          refine lv_iconst (v := (0 : Int32)) (pc := 75) hx hb dX9_arrange_75 (by decide) ?_
          refine lv_goto (pc := 76) (tgt := 80) hx hb dX9_arrange_76 (by decide) ?_
          refine lv_iadd (pc := 80) hx hb dX9_arrange_80 ?_
          refine lv_istore_n (lv' := [(1, .int (x1_2 + (0 : Int32))), (3, .int r_6), (2, .int x2_2), (0, .ref mo)]) (pc := 81) hx hb dX9_arrange_81 rfl hl (by decide) rfl (fun ls hl => ?_)
          refine lv_iinc (v := (x2_2 + (1 : Int32))) (lv' := [(2, .int (x2_2 + (1 : Int32))), (1, .int (x1_2 + (0 : Int32))), (3, .int r_6), (0, .ref mo)]) (pc := 82) hx hb dX9_arrange_82 hl (k := 2) rfl rfl (by decide) rfl (fun ls hl => ?_)
          refine lv_goto (pc := 85) (tgt := 34) hx hb dX9_arrange_85 (by decide) ?_
          exact ih _ _ _ _ _ (olp_l hz8 hL8) hP hD hS (lv_sub hl [0, 1, 3] rfl)
  exact lp8 oFu _ _ _ _ _ hL8 hP hD hS (lv_sub hl [0, 1, 2] rfl)
def fX9_draws (p1 : Int32) (deeds : Int32) (sd : Int32) (ent : Int32) : Option (Int32 × Int32) := (onz p1 (some ((((Int64.toInt32 ((((Int32.toInt64 sd) * (1103515245 : Int64)) + (12345 : Int64)) - (((Int32.toInt64 sd) * (1103515245 : Int64)) + (12345 : Int64)) / (2147483648 : Int64) * (2147483648 : Int64))) / (65536 : Int32)) - ((Int64.toInt32 ((((Int32.toInt64 sd) * (1103515245 : Int64)) + (12345 : Int64)) - (((Int32.toInt64 sd) * (1103515245 : Int64)) + (12345 : Int64)) / (2147483648 : Int64) * (2147483648 : Int64))) / (65536 : Int32)) / p1 * p1), (Int64.toInt32 ((((Int32.toInt64 sd) * (1103515245 : Int64)) + (12345 : Int64)) - (((Int32.toInt64 sd) * (1103515245 : Int64)) + (12345 : Int64)) / (2147483648 : Int64) * (2147483648 : Int64))))))
abbrev wX9_draws (cI cZ cM cS : ClassId) (mo mst mpa mim mik mbi mbk mnr mia min mas mpr mfa mme mse : Nat) (deeds : Int32) (sd : Int32) (ent : Int32) : va_W := [(mo, .inr (9, [.ref mst, .ref mpa, .int deeds, .ref mim, .ref mik, .int sd, .ref mbi, .ref mbk, .int ent, .ref mnr, .ref mia, .ref min, .ref mas, .ref mpr, .ref mfa, .ref mme, .ref mse]))]
set_option maxHeartbeats 4000000 in
set_option maxRecDepth 100000 in
theorem tX9_draws (l : Launch) (D : va_G) (cI cZ cM cS : ClassId) (mo mst mpa mim mik mbi mbk mnr mia min mas mpr mfa mme mse : Nat) (deeds : Int32) (sd : Int32) (ent : Int32) (p1 : Int32) {r : Int32} {sd' : Int32} (hF : fX9_draws p1 deeds sd ent = some (r, sd')) : zCW l yX9_draws wsX9_draws (zRm 0 0) D (zTy cI cZ cM cS) [.ref mo, .int p1] (wX9_draws cI cZ cM cS mo mst mpa mim mik mbi mbk mnr mia min mas mpr mfa mme mse deeds sd ent) (wX9_draws cI cZ cM cS mo mst mpa mim mik mbi mbk mnr mia min mas mpr mfa mme mse deeds sd' ent) (some (.int r)) := by
  unfold fX9_draws at hF
  refine zCW_ofi (cc := cX9_draws) (maxL := 2) (own := RX9) (by decide) rfl rfl (Nat.le_of_ble_eq_true rfl) (fun p e s m args below meth c Q ls A E hA hK hP hD hRet hS hl => ?_)
  refine zgen (fun H locs hP hS => ?_) hP hS
  have hl : lv_has ls 2 [(0, .ref mo), (1, .int p1)] := hl
  obtain ⟨hx, hb, hml, hown, hts⟩ := id E
  have inX9 : ∀ w ∈ u_ws RX9 TX9 17, w ∈ wsX9_draws := by decide +kernel
  have fl158 := hts (.fieldLink RX9 158 "SplitClassesModel" "seedNow" "I") (by decide +kernel)
  have cl174 := hts (.constantLong RX9 174 (1103515245)) (by decide +kernel)
  have cl176 := hts (.constantLong RX9 176 (12345)) (by decide +kernel)
  have cl178 := hts (.constantLong RX9 178 (2147483648)) (by decide +kernel)
  have cn180 := hts (.constant RX9 180 (65536)) (by decide +kernel)
  refine lv_aload_n (pc := 0) hx hb dX9_draws_0 rfl (lv_at hl 0 rfl) ?_
  refine lv_aload_n (pc := 1) hx hb dX9_draws_1 rfl (lv_at hl 0 rfl) ?_
  refine va_get (pc := 2) (ci := 9) (C := RX9) (T := TX9) (N := 17) hx hb hts inX9 hown hK hP 0 rfl rfl 5 (by decide) fl158 (fun _ h9 => h9) rfl dX9_draws_2 ?_
  refine lv_i2l (pc := 5) hx hb dX9_draws_5 rfl ?_
  refine lv_ldc2 (v := (1103515245 : Int64)) (pc := 6) hx hb hown cl174 dX9_draws_6 ?_
  refine lv_lmul (pc := 9) hx hb dX9_draws_9 ?_
  refine lv_ldc2 (v := (12345 : Int64)) (pc := 10) hx hb hown cl176 dX9_draws_10 ?_
  refine lv_ladd (pc := 13) hx hb dX9_draws_13 ?_
  refine lv_ldc2 (v := (2147483648 : Int64)) (pc := 14) hx hb hown cl178 dX9_draws_14 ?_
  refine lv_lrem (pc := 17) hx hb dX9_draws_17 (by decide) ?_
  refine lv_l2i (pc := 18) hx hb dX9_draws_18 rfl ?_
  refine va_put (pc := 19) (D := D) (ci := 9) (v := .int (Int64.toInt32 ((((Int32.toInt64 sd) * (1103515245 : Int64)) + (12345 : Int64)) - (((Int32.toInt64 sd) * (1103515245 : Int64)) + (12345 : Int64)) / (2147483648 : Int64) * (2147483648 : Int64)))) (ty := .int) (C := RX9) (T := TX9) (N := 17) hx hb hts inX9 tyX9 tyX9_ok nmX9 hown hK hP hD hS 0 rfl rfl 5 (by decide) fl158 (fun _ h9 => h9) rfl (by decide +kernel) rfl rfl (Nat.le_of_ble_eq_true rfl) dX9_draws_19 (fun H locs hP hD hS => ?_)
  have hP : va_P D vwCl (wX9_draws cI cZ cM cS mo mst mpa mim mik mbi mbk mnr mia min mas mpr mfa mme mse deeds (Int64.toInt32 ((((Int32.toInt64 sd) * (1103515245 : Int64)) + (12345 : Int64)) - (((Int32.toInt64 sd) * (1103515245 : Int64)) + (12345 : Int64)) / (2147483648 : Int64) * (2147483648 : Int64))) ent) H := hP
  have hD : va_D A (wX9_draws cI cZ cM cS mo mst mpa mim mik mbi mbk mnr mia min mas mpr mfa mme mse deeds (Int64.toInt32 ((((Int32.toInt64 sd) * (1103515245 : Int64)) + (12345 : Int64)) - (((Int32.toInt64 sd) * (1103515245 : Int64)) + (12345 : Int64)) / (2147483648 : Int64) * (2147483648 : Int64))) ent) := hD
  refine lv_aload_n (pc := 22) hx hb dX9_draws_22 rfl (lv_at hl 0 rfl) ?_
  refine va_get (pc := 23) (ci := 9) (C := RX9) (T := TX9) (N := 17) hx hb hts inX9 hown hK hP 0 rfl rfl 5 (by decide) fl158 (fun _ h9 => h9) rfl dX9_draws_23 ?_
  refine lv_ldc (v := (65536 : Int32)) (pc := 26) hx hb hown cn180 dX9_draws_26 ?_
  refine lv_idiv (pc := 28) hx hb dX9_draws_28 (by decide) ?_
  refine lv_iload_n (pc := 29) hx hb dX9_draws_29 rfl (lv_at hl 1 rfl) ?_
  obtain ⟨hn1, hF⟩ := onz_e hF
  refine lv_irem (pc := 30) hx hb dX9_draws_30 hn1 ?_
  cases hF
  exact hRet _ _ _ _ rfl dX9_draws_31 hP hD hS
def fX9_driftsOnce (deeds : Int32) (sd : Int32) (ent : Int32) (st : (Nat → Int32)) (past : (Nat → Int32)) : Option (Int32 × Int32 × (Nat → Int32) × (Nat → Int32)) := (ob2 (fX9_notes deeds sd ent st past) (fun deeds_1 past_1 => (ob2 (fX9_draws (4 : Int32) deeds_1 sd ent) (fun r_1 sd_1 => (if r_1 = (3 : Int32) then (ob2 (fX9_draws ((1 : Int32) <<< ((st 0) &&& 31)) deeds_1 sd_1 ent) (fun r_7 sd_7 => (some (deeds_1, sd_7, (upd st 2 r_7), past_1)))) else (ob2 (fX9_draws (st 0) deeds_1 sd_1 ent) (fun r_2 sd_2 => (if r_1 = (0 : Int32) then (ob2 (fX9_draws (st 0) deeds_1 sd_2 ent) (fun r_6 sd_6 => (if r_2 = r_6 then (some (deeds_1, sd_6, st, past_1)) else (ob1 (fX9_turnsEdge r_2 r_6 deeds_1 sd_6 ent st) (fun st_1 => (some (deeds_1, sd_6, st_1, past_1))))))) else (if r_1 = (1 : Int32) then (ob2 (fX9_draws (256 : Int32) deeds_1 sd_2 ent) (fun r_5 sd_5 => (ogd ((4 : Int32) + r_2) 76 (some (deeds_1, sd_5, (upd st (Int32.toNatClampNeg ((4 : Int32) + r_2)) r_5), past_1))))) else (ob2 (fX9_draws (st 1) deeds_1 sd_2 ent) (fun r_3 sd_3 => (ob2 (fX9_draws (st 0) deeds_1 sd_3 ent) (fun r_4 sd_4 => (ogd (((28 : Int32) + ((3 : Int32) * r_2)) + r_3) 76 (some (deeds_1, sd_4, (upd st (Int32.toNatClampNeg (((28 : Int32) + ((3 : Int32) * r_2)) + r_3)) r_4), past_1))))))))))))))))
abbrev wX9_driftsOnce (cI cZ cM cS : ClassId) (mo mst mpa mim mik mbi mbk mnr mia min mas mpr mfa mme mse : Nat) (deeds : Int32) (sd : Int32) (ent : Int32) (st : (Nat → Int32)) (past : (Nat → Int32)) : va_W := [(mo, .inr (9, [.ref mst, .ref mpa, .int deeds, .ref mim, .ref mik, .int sd, .ref mbi, .ref mbk, .int ent, .ref mnr, .ref mia, .ref min, .ref mas, .ref mpr, .ref mfa, .ref mme, .ref mse])), (mst, .inl (cI, 76, .inl st)), (mpa, .inl (cI, 1216, .inl past))]
set_option maxHeartbeats 4000000 in
set_option maxRecDepth 100000 in
theorem tX9_driftsOnce (l : Launch) (D : va_G) (cI cZ cM cS : ClassId) (mo mst mpa mim mik mbi mbk mnr mia min mas mpr mfa mme mse : Nat) (deeds : Int32) (sd : Int32) (ent : Int32) (st : (Nat → Int32)) (past : (Nat → Int32)) {deeds' : Int32} {sd' : Int32} {st' : (Nat → Int32)} {past' : (Nat → Int32)} (hF : fX9_driftsOnce deeds sd ent st past = some (deeds', sd', st', past')) : zCW l yX9_driftsOnce wsX9_driftsOnce (zRm 2 45) D (zTy cI cZ cM cS) [.ref mo] (wX9_driftsOnce cI cZ cM cS mo mst mpa mim mik mbi mbk mnr mia min mas mpr mfa mme mse deeds sd ent st past) (wX9_driftsOnce cI cZ cM cS mo mst mpa mim mik mbi mbk mnr mia min mas mpr mfa mme mse deeds' sd' ent st' past') none := by
  unfold fX9_driftsOnce at hF
  refine zCW_ofv (cc := cX9_driftsOnce) (maxL := 4) (own := RX9) (by decide) rfl rfl (Nat.le_of_ble_eq_true rfl) (fun p e s m args below meth c Q ls A E hA hK hP hD hRet hS hl => ?_)
  refine zgen (fun H locs hP hS => ?_) hP hS
  have hl : lv_has ls 4 [(0, .ref mo)] := hl
  obtain ⟨hx, hb, hml, hown, hts⟩ := id E
  have inX9 : ∀ w ∈ u_ws RX9 TX9 17, w ∈ wsX9_driftsOnce := by decide +kernel
  have fl7 := hts (.fieldLink RX9 7 "SplitClassesModel" "st" "[I") (by decide +kernel)
  refine lv_aload_n (pc := 0) hx hb dX9_driftsOnce_0 rfl (lv_at hl 0 rfl) ?_
  obtain ⟨deeds_1, past_1, hC1, hF⟩ := ob2_e hF
  refine zV (pc := 1) (As := []) (rest := []) (wr := []) (w2 := (wX9_driftsOnce cI cZ cM cS mo mst mpa mim mik mbi mbk mnr mia min mas mpr mfa mme mse deeds_1 sd ent st past_1)) E (tX9_notes l D cI cZ cM cS mo mst mpa mim mik mbi mbk mnr mia min mas mpr mfa mme mse deeds sd ent st past hC1) 0 gX9_driftsOnce_X9_notes rfl rfl rfl (by decide +kernel) ⟨Nat.le_of_ble_eq_true rfl, Nat.le_of_ble_eq_true rfl⟩ hK hP hD hS hA [0, 1, 2] [] [0, 1, 2] (by decide) rfl rfl (by decide) (by decide) rfl (by decide) 0 9 rfl rfl rfl rfl hl.1 rfl (Nat.le_of_ble_eq_true rfl) dX9_driftsOnce_1 ⟨Nat.zero_le _, Nat.zero_le _⟩ (fun H locs hP hD hS => ?_)
  refine W.eq (g2 := F0 m 4 ls []) rfl ?_
  refine lv_aload_n (pc := 4) hx hb dX9_driftsOnce_4 rfl (lv_at hl 0 rfl) ?_
  refine lv_iconst (v := (4 : Int32)) (pc := 5) hx hb dX9_driftsOnce_5 (by decide) ?_
  obtain ⟨r_1, sd_1, hC2, hF⟩ := ob2_e hF
  refine zV (pc := 6) (As := [.int (4 : Int32)]) (rest := []) (wr := [(mst, .inl (cI, 76, .inl st)), (mpa, .inl (cI, 1216, .inl past_1))]) (w2 := (wX9_driftsOnce cI cZ cM cS mo mst mpa mim mik mbi mbk mnr mia min mas mpr mfa mme mse deeds_1 sd_1 ent st past_1)) E (tX9_draws l D cI cZ cM cS mo mst mpa mim mik mbi mbk mnr mia min mas mpr mfa mme mse deeds_1 sd ent (4 : Int32) hC2) 1 gX9_driftsOnce_X9_draws rfl rfl rfl (by decide +kernel) ⟨Nat.le_of_ble_eq_true rfl, Nat.le_of_ble_eq_true rfl⟩ hK hP hD hS hA [0] [1, 2] [2, 0, 1] (by decide) rfl rfl (by decide) (by decide) rfl (by decide) 0 9 rfl rfl rfl rfl hl.1 rfl (Nat.le_of_ble_eq_true rfl) dX9_driftsOnce_6 ⟨Nat.zero_le _, Nat.zero_le _⟩ (fun H locs hP hD hS => ?_)
  refine W.eq (g2 := F0 m 9 ls [.int r_1]) rfl ?_
  refine lv_istore_n (lv' := [(1, .int r_1), (0, .ref mo)]) (pc := 9) hx hb dX9_driftsOnce_9 rfl hl (by decide) rfl (fun ls hl => ?_)
  refine lv_iload_n (pc := 10) hx hb dX9_driftsOnce_10 rfl (lv_at hl 0 rfl) ?_
  refine lv_iconst (v := (3 : Int32)) (pc := 11) hx hb dX9_driftsOnce_11 (by decide) ?_
  refine lv_icmp_ne (pc := 12) (tgt := 34) hx hb dX9_driftsOnce_12 (by decide) (fun hc => ?_) (fun hc => ?_)
  · have hF := oif_f hF hc
    refine lv_aload_n (pc := 34) hx hb dX9_driftsOnce_34 rfl (lv_at hl 1 rfl) ?_
    refine lv_aload_n (pc := 35) hx hb dX9_driftsOnce_35 rfl (lv_at hl 1 rfl) ?_
    refine va_get (pc := 36) (ci := 9) (C := RX9) (T := TX9) (N := 17) hx hb hts inX9 hown hK hP 0 rfl rfl 0 (by decide) fl7 (fun _ h9 => h9) rfl dX9_driftsOnce_36 ?_
    refine lv_iconst (v := (0 : Int32)) (pc := 39) hx hb dX9_driftsOnce_39 (by decide) ?_
    refine z_iald (pc := 40) (k := 0) hx hb hK hP 1 0 rfl rfl (by decide) (by decide) dX9_driftsOnce_40 ?_
    obtain ⟨r_2, sd_2, hC3, hF⟩ := ob2_e hF
    refine zV (pc := 41) (As := [.int (st 0)]) (rest := []) (wr := [(mst, .inl (cI, 76, .inl st)), (mpa, .inl (cI, 1216, .inl past_1))]) (w2 := (wX9_driftsOnce cI cZ cM cS mo mst mpa mim mik mbi mbk mnr mia min mas mpr mfa mme mse deeds_1 sd_2 ent st past_1)) E (tX9_draws l D cI cZ cM cS mo mst mpa mim mik mbi mbk mnr mia min mas mpr mfa mme mse deeds_1 sd_1 ent (st 0) hC3) 1 gX9_driftsOnce_X9_draws rfl rfl rfl (by decide +kernel) ⟨Nat.le_of_ble_eq_true rfl, Nat.le_of_ble_eq_true rfl⟩ hK hP hD hS hA [0] [1, 2] [2, 0, 1] (by decide) rfl rfl (by decide) (by decide) rfl (by decide) 0 9 rfl rfl rfl rfl hl.1 rfl (Nat.le_of_ble_eq_true rfl) dX9_driftsOnce_41 ⟨Nat.zero_le _, Nat.zero_le _⟩ (fun H locs hP hD hS => ?_)
    refine W.eq (g2 := F0 m 44 ls [.int r_2]) rfl ?_
    refine lv_istore_n (lv' := [(2, .int r_2), (1, .int r_1), (0, .ref mo)]) (pc := 44) hx hb dX9_driftsOnce_44 rfl hl (by decide) rfl (fun ls hl => ?_)
    refine lv_iload_n (pc := 45) hx hb dX9_driftsOnce_45 rfl (lv_at hl 1 rfl) ?_
    refine lv_if_ne (pc := 46) (tgt := 74) hx hb dX9_driftsOnce_46 (by decide) (fun hc => ?_) (fun hc => ?_)
    · have hF := oif_f hF hc
      refine lv_iload_n (pc := 74) hx hb dX9_driftsOnce_74 rfl (lv_at hl 1 rfl) ?_
      refine lv_iconst (v := (1 : Int32)) (pc := 75) hx hb dX9_driftsOnce_75 (by decide) ?_
      refine lv_icmp_ne (pc := 76) (tgt := 97) hx hb dX9_driftsOnce_76 (by decide) (fun hc => ?_) (fun hc => ?_)
      · have hF := oif_f hF hc
        refine lv_aload_n (pc := 97) hx hb dX9_driftsOnce_97 rfl (lv_at hl 2 rfl) ?_
        refine lv_aload_n (pc := 98) hx hb dX9_driftsOnce_98 rfl (lv_at hl 2 rfl) ?_
        refine va_get (pc := 99) (ci := 9) (C := RX9) (T := TX9) (N := 17) hx hb hts inX9 hown hK hP 0 rfl rfl 0 (by decide) fl7 (fun _ h9 => h9) rfl dX9_driftsOnce_99 ?_
        refine lv_iconst (v := (1 : Int32)) (pc := 102) hx hb dX9_driftsOnce_102 (by decide) ?_
        refine z_iald (pc := 103) (k := 1) hx hb hK hP 1 0 rfl rfl (by decide) (by decide) dX9_driftsOnce_103 ?_
        obtain ⟨r_3, sd_3, hC4, hF⟩ := ob2_e hF
        refine zV (pc := 104) (As := [.int (st 1)]) (rest := []) (wr := [(mst, .inl (cI, 76, .inl st)), (mpa, .inl (cI, 1216, .inl past_1))]) (w2 := (wX9_driftsOnce cI cZ cM cS mo mst mpa mim mik mbi mbk mnr mia min mas mpr mfa mme mse deeds_1 sd_3 ent st past_1)) E (tX9_draws l D cI cZ cM cS mo mst mpa mim mik mbi mbk mnr mia min mas mpr mfa mme mse deeds_1 sd_2 ent (st 1) hC4) 1 gX9_driftsOnce_X9_draws rfl rfl rfl (by decide +kernel) ⟨Nat.le_of_ble_eq_true rfl, Nat.le_of_ble_eq_true rfl⟩ hK hP hD hS hA [0] [1, 2] [2, 0, 1] (by decide) rfl rfl (by decide) (by decide) rfl (by decide) 0 9 rfl rfl rfl rfl hl.1 rfl (Nat.le_of_ble_eq_true rfl) dX9_driftsOnce_104 ⟨Nat.zero_le _, Nat.zero_le _⟩ (fun H locs hP hD hS => ?_)
        refine W.eq (g2 := F0 m 107 ls [.int r_3]) rfl ?_
        refine lv_istore_n (lv' := [(3, .int r_3), (2, .int r_2), (1, .int r_1), (0, .ref mo)]) (pc := 107) hx hb dX9_driftsOnce_107 rfl hl (by decide) rfl (fun ls hl => ?_)
        refine lv_aload_n (pc := 108) hx hb dX9_driftsOnce_108 rfl (lv_at hl 3 rfl) ?_
        refine va_get (pc := 109) (ci := 9) (C := RX9) (T := TX9) (N := 17) hx hb hts inX9 hown hK hP 0 rfl rfl 0 (by decide) fl7 (fun _ h9 => h9) rfl dX9_driftsOnce_109 ?_
        refine lv_bipush (v := (28 : Int32)) (pc := 112) hx hb dX9_driftsOnce_112 (by decide) ?_
        refine lv_iconst (v := (3 : Int32)) (pc := 114) hx hb dX9_driftsOnce_114 (by decide) ?_
        refine lv_iload_n (pc := 115) hx hb dX9_driftsOnce_115 rfl (lv_at hl 1 rfl) ?_
        refine lv_imul (pc := 116) hx hb dX9_driftsOnce_116 ?_
        refine lv_iadd (pc := 117) hx hb dX9_driftsOnce_117 ?_
        refine lv_iload_n (pc := 118) hx hb dX9_driftsOnce_118 rfl (lv_at hl 0 rfl) ?_
        refine lv_iadd (pc := 119) hx hb dX9_driftsOnce_119 ?_
        refine lv_aload_n (pc := 120) hx hb dX9_driftsOnce_120 rfl (lv_at hl 3 rfl) ?_
        refine lv_aload_n (pc := 121) hx hb dX9_driftsOnce_121 rfl (lv_at hl 3 rfl) ?_
        refine va_get (pc := 122) (ci := 9) (C := RX9) (T := TX9) (N := 17) hx hb hts inX9 hown hK hP 0 rfl rfl 0 (by decide) fl7 (fun _ h9 => h9) rfl dX9_driftsOnce_122 ?_
        refine lv_iconst (v := (0 : Int32)) (pc := 125) hx hb dX9_driftsOnce_125 (by decide) ?_
        refine z_iald (pc := 126) (k := 0) hx hb hK hP 1 0 rfl rfl (by decide) (by decide) dX9_driftsOnce_126 ?_
        obtain ⟨r_4, sd_4, hC5, hF⟩ := ob2_e hF
        refine zV (pc := 127) (As := [.int (st 0)]) (rest := [.int (((28 : Int32) + ((3 : Int32) * r_2)) + r_3), .ref mst]) (wr := [(mst, .inl (cI, 76, .inl st)), (mpa, .inl (cI, 1216, .inl past_1))]) (w2 := (wX9_driftsOnce cI cZ cM cS mo mst mpa mim mik mbi mbk mnr mia min mas mpr mfa mme mse deeds_1 sd_4 ent st past_1)) E (tX9_draws l D cI cZ cM cS mo mst mpa mim mik mbi mbk mnr mia min mas mpr mfa mme mse deeds_1 sd_3 ent (st 0) hC5) 1 gX9_driftsOnce_X9_draws rfl rfl rfl (by decide +kernel) ⟨Nat.le_of_ble_eq_true rfl, Nat.le_of_ble_eq_true rfl⟩ hK hP hD hS hA [0] [1, 2] [2, 0, 1] (by decide) rfl rfl (by decide) (by decide) rfl (by decide) 0 9 rfl rfl rfl rfl hl.1 rfl (Nat.le_of_ble_eq_true rfl) dX9_driftsOnce_127 ⟨Nat.zero_le _, Nat.zero_le _⟩ (fun H locs hP hD hS => ?_)
        refine W.eq (g2 := F0 m 130 ls [.int r_4, .int (((28 : Int32) + ((3 : Int32) * r_2)) + r_3), .ref mst]) rfl ?_
        obtain ⟨hg6, hF⟩ := ogd_e hF
        refine va_iast (pc := 130) hx hb hK hP hD hS 1 0 rfl rfl hg6 dX9_driftsOnce_130 (fun H locs hP hD hS => ?_)
        have hP : va_P D vwCl (wX9_driftsOnce cI cZ cM cS mo mst mpa mim mik mbi mbk mnr mia min mas mpr mfa mme mse deeds_1 sd_4 ent (upd st (Int32.toNatClampNeg (((28 : Int32) + ((3 : Int32) * r_2)) + r_3)) r_4) past_1) H := hP
        have hD : va_D A (wX9_driftsOnce cI cZ cM cS mo mst mpa mim mik mbi mbk mnr mia min mas mpr mfa mme mse deeds_1 sd_4 ent (upd st (Int32.toNatClampNeg (((28 : Int32) + ((3 : Int32) * r_2)) + r_3)) r_4) past_1) := hD
        cases hF
        exact hRet _ _ _ _ dX9_driftsOnce_131 hP hD hS
      · have hF := oif_t hF hc
        refine lv_aload_n (pc := 79) hx hb dX9_driftsOnce_79 rfl (lv_at hl 2 rfl) ?_
        refine va_get (pc := 80) (ci := 9) (C := RX9) (T := TX9) (N := 17) hx hb hts inX9 hown hK hP 0 rfl rfl 0 (by decide) fl7 (fun _ h9 => h9) rfl dX9_driftsOnce_80 ?_
        refine lv_iconst (v := (4 : Int32)) (pc := 83) hx hb dX9_driftsOnce_83 (by decide) ?_
        refine lv_iload_n (pc := 84) hx hb dX9_driftsOnce_84 rfl (lv_at hl 0 rfl) ?_
        refine lv_iadd (pc := 85) hx hb dX9_driftsOnce_85 ?_
        refine lv_aload_n (pc := 86) hx hb dX9_driftsOnce_86 rfl (lv_at hl 2 rfl) ?_
        refine lv_sipush (v := (256 : Int32)) (pc := 87) hx hb dX9_driftsOnce_87 (by decide) ?_
        obtain ⟨r_5, sd_5, hC7, hF⟩ := ob2_e hF
        refine zV (pc := 90) (As := [.int (256 : Int32)]) (rest := [.int ((4 : Int32) + r_2), .ref mst]) (wr := [(mst, .inl (cI, 76, .inl st)), (mpa, .inl (cI, 1216, .inl past_1))]) (w2 := (wX9_driftsOnce cI cZ cM cS mo mst mpa mim mik mbi mbk mnr mia min mas mpr mfa mme mse deeds_1 sd_5 ent st past_1)) E (tX9_draws l D cI cZ cM cS mo mst mpa mim mik mbi mbk mnr mia min mas mpr mfa mme mse deeds_1 sd_2 ent (256 : Int32) hC7) 1 gX9_driftsOnce_X9_draws rfl rfl rfl (by decide +kernel) ⟨Nat.le_of_ble_eq_true rfl, Nat.le_of_ble_eq_true rfl⟩ hK hP hD hS hA [0] [1, 2] [2, 0, 1] (by decide) rfl rfl (by decide) (by decide) rfl (by decide) 0 9 rfl rfl rfl rfl hl.1 rfl (Nat.le_of_ble_eq_true rfl) dX9_driftsOnce_90 ⟨Nat.zero_le _, Nat.zero_le _⟩ (fun H locs hP hD hS => ?_)
        refine W.eq (g2 := F0 m 93 ls [.int r_5, .int ((4 : Int32) + r_2), .ref mst]) rfl ?_
        obtain ⟨hg8, hF⟩ := ogd_e hF
        refine va_iast (pc := 93) hx hb hK hP hD hS 1 0 rfl rfl hg8 dX9_driftsOnce_93 (fun H locs hP hD hS => ?_)
        have hP : va_P D vwCl (wX9_driftsOnce cI cZ cM cS mo mst mpa mim mik mbi mbk mnr mia min mas mpr mfa mme mse deeds_1 sd_5 ent (upd st (Int32.toNatClampNeg ((4 : Int32) + r_2)) r_5) past_1) H := hP
        have hD : va_D A (wX9_driftsOnce cI cZ cM cS mo mst mpa mim mik mbi mbk mnr mia min mas mpr mfa mme mse deeds_1 sd_5 ent (upd st (Int32.toNatClampNeg ((4 : Int32) + r_2)) r_5) past_1) := hD
        refine lv_goto (pc := 94) (tgt := 131) hx hb dX9_driftsOnce_94 (by decide) ?_
        cases hF
        exact hRet _ _ _ _ dX9_driftsOnce_131 hP hD hS
    · have hF := oif_t hF hc
      refine lv_aload_n (pc := 49) hx hb dX9_driftsOnce_49 rfl (lv_at hl 2 rfl) ?_
      refine lv_aload_n (pc := 50) hx hb dX9_driftsOnce_50 rfl (lv_at hl 2 rfl) ?_
      refine va_get (pc := 51) (ci := 9) (C := RX9) (T := TX9) (N := 17) hx hb hts inX9 hown hK hP 0 rfl rfl 0 (by decide) fl7 (fun _ h9 => h9) rfl dX9_driftsOnce_51 ?_
      refine lv_iconst (v := (0 : Int32)) (pc := 54) hx hb dX9_driftsOnce_54 (by decide) ?_
      refine z_iald (pc := 55) (k := 0) hx hb hK hP 1 0 rfl rfl (by decide) (by decide) dX9_driftsOnce_55 ?_
      obtain ⟨r_6, sd_6, hC9, hF⟩ := ob2_e hF
      refine zV (pc := 56) (As := [.int (st 0)]) (rest := []) (wr := [(mst, .inl (cI, 76, .inl st)), (mpa, .inl (cI, 1216, .inl past_1))]) (w2 := (wX9_driftsOnce cI cZ cM cS mo mst mpa mim mik mbi mbk mnr mia min mas mpr mfa mme mse deeds_1 sd_6 ent st past_1)) E (tX9_draws l D cI cZ cM cS mo mst mpa mim mik mbi mbk mnr mia min mas mpr mfa mme mse deeds_1 sd_2 ent (st 0) hC9) 1 gX9_driftsOnce_X9_draws rfl rfl rfl (by decide +kernel) ⟨Nat.le_of_ble_eq_true rfl, Nat.le_of_ble_eq_true rfl⟩ hK hP hD hS hA [0] [1, 2] [2, 0, 1] (by decide) rfl rfl (by decide) (by decide) rfl (by decide) 0 9 rfl rfl rfl rfl hl.1 rfl (Nat.le_of_ble_eq_true rfl) dX9_driftsOnce_56 ⟨Nat.zero_le _, Nat.zero_le _⟩ (fun H locs hP hD hS => ?_)
      refine W.eq (g2 := F0 m 59 ls [.int r_6]) rfl ?_
      refine lv_istore_n (lv' := [(3, .int r_6), (2, .int r_2), (1, .int r_1), (0, .ref mo)]) (pc := 59) hx hb dX9_driftsOnce_59 rfl hl (by decide) rfl (fun ls hl => ?_)
      refine lv_iload_n (pc := 60) hx hb dX9_driftsOnce_60 rfl (lv_at hl 1 rfl) ?_
      refine lv_iload_n (pc := 61) hx hb dX9_driftsOnce_61 rfl (lv_at hl 0 rfl) ?_
      refine lv_icmp_eq (pc := 62) (tgt := 71) hx hb dX9_driftsOnce_62 (by decide) (fun hc => ?_) (fun hc => ?_)
      · have hF := oif_t hF hc
        refine lv_goto (pc := 71) (tgt := 131) hx hb dX9_driftsOnce_71 (by decide) ?_
        cases hF
        exact hRet _ _ _ _ dX9_driftsOnce_131 hP hD hS
      · have hF := oif_f hF hc
        refine lv_aload_n (pc := 65) hx hb dX9_driftsOnce_65 rfl (lv_at hl 3 rfl) ?_
        refine lv_iload_n (pc := 66) hx hb dX9_driftsOnce_66 rfl (lv_at hl 1 rfl) ?_
        refine lv_iload_n (pc := 67) hx hb dX9_driftsOnce_67 rfl (lv_at hl 0 rfl) ?_
        obtain ⟨st_1, hC10, hF⟩ := ob1_e hF
        refine zV (pc := 68) (As := [.int r_2, .int r_6]) (rest := []) (wr := [(mpa, .inl (cI, 1216, .inl past_1))]) (w2 := (wX9_driftsOnce cI cZ cM cS mo mst mpa mim mik mbi mbk mnr mia min mas mpr mfa mme mse deeds_1 sd_6 ent st_1 past_1)) E (tX9_turnsEdge l D cI cZ cM cS mo mst mpa mim mik mbi mbk mnr mia min mas mpr mfa mme mse deeds_1 sd_6 ent st r_2 r_6 hC10) 2 gX9_driftsOnce_X9_turnsEdge rfl rfl rfl (by decide +kernel) ⟨Nat.le_of_ble_eq_true rfl, Nat.le_of_ble_eq_true rfl⟩ hK hP hD hS hA [0, 1] [2] [1, 2, 0] (by decide) rfl rfl (by decide) (by decide) rfl (by decide) 0 9 rfl rfl rfl rfl hl.1 rfl (Nat.le_of_ble_eq_true rfl) dX9_driftsOnce_68 ⟨Nat.zero_le _, Nat.zero_le _⟩ (fun H locs hP hD hS => ?_)
        refine W.eq (g2 := F0 m 71 ls []) rfl ?_
        refine lv_goto (pc := 71) (tgt := 131) hx hb dX9_driftsOnce_71 (by decide) ?_
        cases hF
        exact hRet _ _ _ _ dX9_driftsOnce_131 hP hD hS
  · have hF := oif_t hF hc
    refine lv_aload_n (pc := 15) hx hb dX9_driftsOnce_15 rfl (lv_at hl 1 rfl) ?_
    refine va_get (pc := 16) (ci := 9) (C := RX9) (T := TX9) (N := 17) hx hb hts inX9 hown hK hP 0 rfl rfl 0 (by decide) fl7 (fun _ h9 => h9) rfl dX9_driftsOnce_16 ?_
    refine lv_iconst (v := (2 : Int32)) (pc := 19) hx hb dX9_driftsOnce_19 (by decide) ?_
    refine lv_aload_n (pc := 20) hx hb dX9_driftsOnce_20 rfl (lv_at hl 1 rfl) ?_
    refine lv_iconst (v := (1 : Int32)) (pc := 21) hx hb dX9_driftsOnce_21 (by decide) ?_
    refine lv_aload_n (pc := 22) hx hb dX9_driftsOnce_22 rfl (lv_at hl 1 rfl) ?_
    refine va_get (pc := 23) (ci := 9) (C := RX9) (T := TX9) (N := 17) hx hb hts inX9 hown hK hP 0 rfl rfl 0 (by decide) fl7 (fun _ h9 => h9) rfl dX9_driftsOnce_23 ?_
    refine lv_iconst (v := (0 : Int32)) (pc := 26) hx hb dX9_driftsOnce_26 (by decide) ?_
    refine z_iald (pc := 27) (k := 0) hx hb hK hP 1 0 rfl rfl (by decide) (by decide) dX9_driftsOnce_27 ?_
    refine lv_ishl (pc := 28) hx hb dX9_driftsOnce_28 ?_
    obtain ⟨r_7, sd_7, hC11, hF⟩ := ob2_e hF
    refine zV (pc := 29) (As := [.int ((1 : Int32) <<< ((st 0) &&& 31))]) (rest := [.int (2 : Int32), .ref mst]) (wr := [(mst, .inl (cI, 76, .inl st)), (mpa, .inl (cI, 1216, .inl past_1))]) (w2 := (wX9_driftsOnce cI cZ cM cS mo mst mpa mim mik mbi mbk mnr mia min mas mpr mfa mme mse deeds_1 sd_7 ent st past_1)) E (tX9_draws l D cI cZ cM cS mo mst mpa mim mik mbi mbk mnr mia min mas mpr mfa mme mse deeds_1 sd_1 ent ((1 : Int32) <<< ((st 0) &&& 31)) hC11) 1 gX9_driftsOnce_X9_draws rfl rfl rfl (by decide +kernel) ⟨Nat.le_of_ble_eq_true rfl, Nat.le_of_ble_eq_true rfl⟩ hK hP hD hS hA [0] [1, 2] [2, 0, 1] (by decide) rfl rfl (by decide) (by decide) rfl (by decide) 0 9 rfl rfl rfl rfl hl.1 rfl (Nat.le_of_ble_eq_true rfl) dX9_driftsOnce_29 ⟨Nat.zero_le _, Nat.zero_le _⟩ (fun H locs hP hD hS => ?_)
    refine W.eq (g2 := F0 m 32 ls [.int r_7, .int (2 : Int32), .ref mst]) rfl ?_
    refine z_iast (pc := 32) (k := 2) hx hb hK hP hD hS 1 0 rfl rfl (by decide) (by decide) dX9_driftsOnce_32 (fun H locs hP hD hS => ?_)
    have hP : va_P D vwCl (wX9_driftsOnce cI cZ cM cS mo mst mpa mim mik mbi mbk mnr mia min mas mpr mfa mme mse deeds_1 sd_7 ent (upd st 2 r_7) past_1) H := hP
    have hD : va_D A (wX9_driftsOnce cI cZ cM cS mo mst mpa mim mik mbi mbk mnr mia min mas mpr mfa mme mse deeds_1 sd_7 ent (upd st 2 r_7) past_1) := hD
    cases hF
    exact hRet _ _ _ _ dX9_driftsOnce_33 hP hD hS
def fX9_drift_b15 (p1 : Int32) (ent : Int32) (x2_2 : Int32) (deeds_3 : Int32) (sd_3 : Int32) (st_3 : (Nat → Int32)) (past_3 : (Nat → Int32)) : Option ((Int32 × Int32 × Int32 × (Nat → Int32) × (Nat → Int32)) ⊕ (Int32 × Int32 × (Nat → Int32) × (Nat → Int32))) := (if p1 ≤ x2_2 then (some (.inr (deeds_3, sd_3, st_3, past_3))) else (ob4 (fX9_driftsOnce deeds_3 sd_3 ent st_3 past_3) (fun deeds_5 sd_5 st_5 past_5 => (some (.inl ((x2_2 + (1 : Int32)), deeds_5, sd_5, st_5, past_5))))))
def fX9_drift_s15 (p1 : Int32) (ent : Int32) (sg_ : Int32 × Int32 × Int32 × (Nat → Int32) × (Nat → Int32)) : Option ((Int32 × Int32 × Int32 × (Nat → Int32) × (Nat → Int32)) ⊕ (Int32 × Int32 × (Nat → Int32) × (Nat → Int32))) := fX9_drift_b15 p1 ent sg_.1 sg_.2.1 sg_.2.2.1 sg_.2.2.2.1 sg_.2.2.2.2
def fX9_drift (p1 : Int32) (deeds : Int32) (sd : Int32) (ent : Int32) (st : (Nat → Int32)) (past : (Nat → Int32)) : Option (Int32 × Int32 × Int32 × (Nat → Int32) × (Nat → Int32)) := (ob1 (fX9_in p1 (1 : Int32) (12 : Int32)) (fun r_1 => (if r_1 = (0 : Int32) then (some ((-1000000002 : Int32), deeds, sd, st, past)) else (ob4 (olp (fX9_drift_s15 p1 ent) oFu ((0 : Int32), deeds, sd, st, past)) (fun deeds_4 sd_4 st_4 past_4 => (ob1 (fX9_edgesNow deeds_4 sd_4 ent st_4) (fun r_2 => (some (r_2, deeds_4, sd_4, st_4, past_4)))))))))
abbrev wX9_drift (cI cZ cM cS : ClassId) (mo mst mpa mim mik mbi mbk mnr mia min mas mpr mfa mme mse : Nat) (deeds : Int32) (sd : Int32) (ent : Int32) (st : (Nat → Int32)) (past : (Nat → Int32)) : va_W := [(mo, .inr (9, [.ref mst, .ref mpa, .int deeds, .ref mim, .ref mik, .int sd, .ref mbi, .ref mbk, .int ent, .ref mnr, .ref mia, .ref min, .ref mas, .ref mpr, .ref mfa, .ref mme, .ref mse])), (mst, .inl (cI, 76, .inl st)), (mpa, .inl (cI, 1216, .inl past))]
set_option maxHeartbeats 4000000 in
set_option maxRecDepth 100000 in
theorem tX9_drift (l : Launch) (D : va_G) (cI cZ cM cS : ClassId) (mo mst mpa mim mik mbi mbk mnr mia min mas mpr mfa mme mse : Nat) (deeds : Int32) (sd : Int32) (ent : Int32) (st : (Nat → Int32)) (past : (Nat → Int32)) (p1 : Int32) {r : Int32} {deeds' : Int32} {sd' : Int32} {st' : (Nat → Int32)} {past' : (Nat → Int32)} (hF : fX9_drift p1 deeds sd ent st past = some (r, deeds', sd', st', past')) : zCW l yX9_drift wsX9_drift (zRm 3 68) D (zTy cI cZ cM cS) [.ref mo, .int p1] (wX9_drift cI cZ cM cS mo mst mpa mim mik mbi mbk mnr mia min mas mpr mfa mme mse deeds sd ent st past) (wX9_drift cI cZ cM cS mo mst mpa mim mik mbi mbk mnr mia min mas mpr mfa mme mse deeds' sd' ent st' past') (some (.int r)) := by
  unfold fX9_drift at hF
  refine zCW_ofi (cc := cX9_drift) (maxL := 3) (own := RX9) (by decide) rfl rfl (Nat.le_of_ble_eq_true rfl) (fun p e s m args below meth c Q ls A E hA hK hP hD hRet hS hl => ?_)
  refine zgen (fun H locs hP hS => ?_) hP hS
  have hl : lv_has ls 3 [(0, .ref mo), (1, .int p1)] := hl
  obtain ⟨hx, hb, hml, hown, hts⟩ := id E
  have cn94 := hts (.constant RX9 94 (-1000000002)) (by decide +kernel)
  refine lv_iload_n (pc := 0) hx hb dX9_drift_0 rfl (lv_at hl 1 rfl) ?_
  refine lv_iconst (v := (1 : Int32)) (pc := 1) hx hb dX9_drift_1 (by decide) ?_
  refine lv_bipush (v := (12 : Int32)) (pc := 2) hx hb dX9_drift_2 (by decide) ?_
  obtain ⟨r_1, hC1, hF⟩ := ob1_e hF
  refine zSr (pc := 4) (As := [.int p1, .int (1 : Int32), .int (12 : Int32)]) (rest := []) E (tX9_in l D cI cZ cM cS p1 (1 : Int32) (12 : Int32) hC1) 3 gX9_drift_X9_in rfl rfl rfl (by decide +kernel) ⟨Nat.le_of_ble_eq_true rfl, Nat.le_of_ble_eq_true rfl⟩ hK hP [] rfl rfl hl.1 rfl (Nat.le_of_ble_eq_true rfl) dX9_drift_4 ⟨Nat.zero_le _, Nat.zero_le _⟩ ?_
  refine lv_if_ne (pc := 7) (tgt := 13) hx hb dX9_drift_7 (by decide) (fun hc => ?_) (fun hc => ?_)
  · have hF := oif_f hF hc
    refine lv_iconst (v := (0 : Int32)) (pc := 13) hx hb dX9_drift_13 (by decide) ?_
    refine lv_istore_n (lv' := [(2, .int (0 : Int32)), (0, .ref mo), (1, .int p1)]) (pc := 14) hx hb dX9_drift_14 rfl hl (by decide) rfl (fun ls hl => ?_)
    obtain ⟨deeds_4, sd_4, st_4, past_4, hL3, hF⟩ := ob4_e hF
    have ex3 : ∀ (H : Heap) (locs : List Loc) (ls : Array Slot), va_P D vwCl (wX9_drift cI cZ cM cS mo mst mpa mim mik mbi mbk mnr mia min mas mpr mfa mme mse deeds_4 sd_4 ent st_4 past_4) H → va_D A (wX9_drift cI cZ cM cS mo mst mpa mim mik mbi mbk mnr mia min mas mpr mfa mme mse deeds_4 sd_4 ent st_4 past_4) → va_S A s.heap H locs → lv_has ls 3 [(0, .ref mo)] → W p l e (zRm 3 68) s m args below meth c H locs 0 0 Q (F0 m 30 ls []) := by
      intro H locs ls hP hD hS hl
      refine lv_aload_n (pc := 30) hx hb dX9_drift_30 rfl (lv_at hl 0 rfl) ?_
      obtain ⟨r_2, hC5, hF⟩ := ob1_e hF
      refine zVr (pc := 31) (As := []) (rest := []) E (tX9_edgesNow l D cI cZ cM cS mo mst mpa mim mik mbi mbk mnr mia min mas mpr mfa mme mse deeds_4 sd_4 ent st_4 hC5) 0 gX9_drift_X9_edgesNow rfl rfl rfl (by decide +kernel) ⟨Nat.le_of_ble_eq_true rfl, Nat.le_of_ble_eq_true rfl⟩ hK hP [0, 1] rfl 0 9 rfl rfl rfl rfl hl.1 rfl (Nat.le_of_ble_eq_true rfl) dX9_drift_31 ⟨Nat.zero_le _, Nat.zero_le _⟩ ?_
      cases hF
      exact hRet _ _ _ _ rfl dX9_drift_34 hP hD hS
    have lp3 : ∀ (n : Nat) (x2_2 : Int32) (deeds_3 : Int32) (sd_3 : Int32) (st_3 : (Nat → Int32)) (past_3 : (Nat → Int32)) (H : Heap) (locs : List Loc) (ls : Array Slot), olp (fX9_drift_s15 p1 ent) n (x2_2, deeds_3, sd_3, st_3, past_3) = some (deeds_4, sd_4, st_4, past_4) → va_P D vwCl (wX9_drift cI cZ cM cS mo mst mpa mim mik mbi mbk mnr mia min mas mpr mfa mme mse deeds_3 sd_3 ent st_3 past_3) H → va_D A (wX9_drift cI cZ cM cS mo mst mpa mim mik mbi mbk mnr mia min mas mpr mfa mme mse deeds_3 sd_3 ent st_3 past_3) → va_S A s.heap H locs → lv_has ls 3 [(2, .int x2_2), (0, .ref mo), (1, .int p1)] → W p l e (zRm 3 68) s m args below meth c H locs 0 0 Q (F0 m 15 ls []) := by
      intro n
      induction n with
      | zero => intro x2_2 deeds_3 sd_3 st_3 past_3 H locs ls hL; exact olp_0 hL
      | succ n ih =>
        intro x2_2 deeds_3 sd_3 st_3 past_3 H locs ls hL3 hP hD hS hl
        obtain ⟨z, hz3, hL3⟩ := olp_e hL3
        have hz3 : fX9_drift_b15 p1 ent x2_2 deeds_3 sd_3 st_3 past_3 = some z := hz3
        unfold fX9_drift_b15 at hz3
        refine lv_iload_n (pc := 15) hx hb dX9_drift_15 rfl (lv_at hl 0 rfl) ?_
        refine lv_iload_n (pc := 16) hx hb dX9_drift_16 rfl (lv_at hl 2 rfl) ?_
        refine lv_icmp_ge (pc := 17) (tgt := 30) hx hb dX9_drift_17 (by decide) (fun hc => ?_) (fun hc => ?_)
        · have hz3 := oif_t hz3 hc
          have hE := olp_r hz3 hL3
          cases hE
          exact ex3 _ _ _ hP hD hS (lv_sub hl [1] rfl)
        · have hz3 := oif_f hz3 hc
          refine lv_aload_n (pc := 20) hx hb dX9_drift_20 rfl (lv_at hl 1 rfl) ?_
          obtain ⟨deeds_5, sd_5, st_5, past_5, hC4, hz3⟩ := ob4_e hz3
          refine zV (pc := 21) (As := []) (rest := []) (wr := []) (w2 := (wX9_drift cI cZ cM cS mo mst mpa mim mik mbi mbk mnr mia min mas mpr mfa mme mse deeds_5 sd_5 ent st_5 past_5)) E (tX9_driftsOnce l D cI cZ cM cS mo mst mpa mim mik mbi mbk mnr mia min mas mpr mfa mme mse deeds_3 sd_3 ent st_3 past_3 hC4) 0 gX9_drift_X9_driftsOnce rfl rfl rfl (by decide +kernel) ⟨Nat.le_of_ble_eq_true rfl, Nat.le_of_ble_eq_true rfl⟩ hK hP hD hS hA [0, 1, 2] [] [0, 1, 2] (by decide) rfl rfl (by decide) (by decide) rfl (by decide) 0 9 rfl rfl rfl rfl hl.1 rfl (Nat.le_of_ble_eq_true rfl) dX9_drift_21 ⟨Nat.zero_le _, Nat.zero_le _⟩ (fun H locs hP hD hS => ?_)
          refine W.eq (g2 := F0 m 24 ls []) rfl ?_
          refine lv_iinc (v := (x2_2 + (1 : Int32))) (lv' := [(2, .int (x2_2 + (1 : Int32))), (0, .ref mo), (1, .int p1)]) (pc := 24) hx hb dX9_drift_24 hl (k := 0) rfl rfl (by decide) rfl (fun ls hl => ?_)
          refine lv_goto (pc := 27) (tgt := 15) hx hb dX9_drift_27 (by decide) ?_
          exact ih _ _ _ _ _ _ _ _ (olp_l hz3 hL3) hP hD hS (lv_sub hl [0, 1, 2] rfl)
    exact lp3 oFu _ _ _ _ _ _ _ _ hL3 hP hD hS (lv_sub hl [0, 1, 2] rfl)
  · have hF := oif_t hF hc
    refine lv_ldc (v := (-1000000002 : Int32)) (pc := 10) hx hb hown cn94 dX9_drift_10 ?_
    cases hF
    exact hRet _ _ _ _ rfl dX9_drift_12 hP hD hS
def fX9_undo (p1 : Int32) (deeds : Int32) (sd : Int32) (ent : Int32) (st : (Nat → Int32)) (past : (Nat → Int32)) : Option (Int32 × Int32 × (Nat → Int32)) := (ob1 (fX9_in p1 (1 : Int32) (16 : Int32)) (fun r_1 => (if r_1 = (0 : Int32) then (some ((-1000000002 : Int32), deeds, st)) else (if p1 ≤ deeds then (ob1 (fX9_bring 1216 76 ((76 : Int32) * (deeds - p1)) (0 : Int32) (76 : Int32) past st) (fun st_1 => (some ((deeds - p1), (deeds - p1), st_1)))) else (some ((-1000000003 : Int32), deeds, st))))))
abbrev wX9_undo (cI cZ cM cS : ClassId) (mo mst mpa mim mik mbi mbk mnr mia min mas mpr mfa mme mse : Nat) (deeds : Int32) (sd : Int32) (ent : Int32) (st : (Nat → Int32)) (past : (Nat → Int32)) : va_W := [(mo, .inr (9, [.ref mst, .ref mpa, .int deeds, .ref mim, .ref mik, .int sd, .ref mbi, .ref mbk, .int ent, .ref mnr, .ref mia, .ref min, .ref mas, .ref mpr, .ref mfa, .ref mme, .ref mse])), (mst, .inl (cI, 76, .inl st)), (mpa, .inl (cI, 1216, .inl past))]
set_option maxHeartbeats 4000000 in
set_option maxRecDepth 100000 in
theorem tX9_undo (l : Launch) (D : va_G) (cI cZ cM cS : ClassId) (mo mst mpa mim mik mbi mbk mnr mia min mas mpr mfa mme mse : Nat) (deeds : Int32) (sd : Int32) (ent : Int32) (st : (Nat → Int32)) (past : (Nat → Int32)) (p1 : Int32) {r : Int32} {deeds' : Int32} {st' : (Nat → Int32)} (hF : fX9_undo p1 deeds sd ent st past = some (r, deeds', st')) : zCW l yX9_undo wsX9_undo (zRm 1 25) D (zTy cI cZ cM cS) [.ref mo, .int p1] (wX9_undo cI cZ cM cS mo mst mpa mim mik mbi mbk mnr mia min mas mpr mfa mme mse deeds sd ent st past) (wX9_undo cI cZ cM cS mo mst mpa mim mik mbi mbk mnr mia min mas mpr mfa mme mse deeds' sd ent st' past) (some (.int r)) := by
  unfold fX9_undo at hF
  refine zCW_ofi (cc := cX9_undo) (maxL := 2) (own := RX9) (by decide) rfl rfl (Nat.le_of_ble_eq_true rfl) (fun p e s m args below meth c Q ls A E hA hK hP hD hRet hS hl => ?_)
  refine zgen (fun H locs hP hS => ?_) hP hS
  have hl : lv_has ls 2 [(0, .ref mo), (1, .int p1)] := hl
  obtain ⟨hx, hb, hml, hown, hts⟩ := id E
  have inX9 : ∀ w ∈ u_ws RX9 TX9 17, w ∈ wsX9_undo := by decide +kernel
  have fl13 := hts (.fieldLink RX9 13 "SplitClassesModel" "past" "[I") (by decide +kernel)
  have fl61 := hts (.fieldLink RX9 61 "SplitClassesModel" "deeds" "I") (by decide +kernel)
  have fl7 := hts (.fieldLink RX9 7 "SplitClassesModel" "st" "[I") (by decide +kernel)
  have cn187 := hts (.constant RX9 187 (-1000000003)) (by decide +kernel)
  have cn94 := hts (.constant RX9 94 (-1000000002)) (by decide +kernel)
  refine lv_iload_n (pc := 0) hx hb dX9_undo_0 rfl (lv_at hl 1 rfl) ?_
  refine lv_iconst (v := (1 : Int32)) (pc := 1) hx hb dX9_undo_1 (by decide) ?_
  refine lv_bipush (v := (16 : Int32)) (pc := 2) hx hb dX9_undo_2 (by decide) ?_
  obtain ⟨r_1, hC1, hF⟩ := ob1_e hF
  refine zSr (pc := 4) (As := [.int p1, .int (1 : Int32), .int (16 : Int32)]) (rest := []) E (tX9_in l D cI cZ cM cS p1 (1 : Int32) (16 : Int32) hC1) 3 gX9_undo_X9_in rfl rfl rfl (by decide +kernel) ⟨Nat.le_of_ble_eq_true rfl, Nat.le_of_ble_eq_true rfl⟩ hK hP [] rfl rfl hl.1 rfl (Nat.le_of_ble_eq_true rfl) dX9_undo_4 ⟨Nat.zero_le _, Nat.zero_le _⟩ ?_
  refine lv_if_ne (pc := 7) (tgt := 13) hx hb dX9_undo_7 (by decide) (fun hc => ?_) (fun hc => ?_)
  · have hF := oif_f hF hc
    refine lv_iload_n (pc := 13) hx hb dX9_undo_13 rfl (lv_at hl 1 rfl) ?_
    refine lv_aload_n (pc := 14) hx hb dX9_undo_14 rfl (lv_at hl 0 rfl) ?_
    refine va_get (pc := 15) (ci := 9) (C := RX9) (T := TX9) (N := 17) hx hb hts inX9 hown hK hP 0 rfl rfl 2 (by decide) fl61 (fun _ h9 => h9) rfl dX9_undo_15 ?_
    refine lv_icmp_le (pc := 18) (tgt := 24) hx hb dX9_undo_18 (by decide) (fun hc => ?_) (fun hc => ?_)
    · have hF := oif_t hF hc
      refine lv_aload_n (pc := 24) hx hb dX9_undo_24 rfl (lv_at hl 0 rfl) ?_
      refine lv_dup (pc := 25) hx hb dX9_undo_25 rfl ?_
      refine va_get (pc := 26) (ci := 9) (C := RX9) (T := TX9) (N := 17) hx hb hts inX9 hown hK hP 0 rfl rfl 2 (by decide) fl61 (fun _ h9 => h9) rfl dX9_undo_26 ?_
      refine lv_iload_n (pc := 29) hx hb dX9_undo_29 rfl (lv_at hl 1 rfl) ?_
      refine lv_isub (pc := 30) hx hb dX9_undo_30 ?_
      refine va_put (pc := 31) (D := D) (ci := 9) (v := .int (deeds - p1)) (ty := .int) (C := RX9) (T := TX9) (N := 17) hx hb hts inX9 tyX9 tyX9_ok nmX9 hown hK hP hD hS 0 rfl rfl 2 (by decide) fl61 (fun _ h9 => h9) rfl (by decide +kernel) rfl rfl (Nat.le_of_ble_eq_true rfl) dX9_undo_31 (fun H locs hP hD hS => ?_)
      have hP : va_P D vwCl (wX9_undo cI cZ cM cS mo mst mpa mim mik mbi mbk mnr mia min mas mpr mfa mme mse (deeds - p1) sd ent st past) H := hP
      have hD : va_D A (wX9_undo cI cZ cM cS mo mst mpa mim mik mbi mbk mnr mia min mas mpr mfa mme mse (deeds - p1) sd ent st past) := hD
      refine lv_aload_n (pc := 34) hx hb dX9_undo_34 rfl (lv_at hl 0 rfl) ?_
      refine va_get (pc := 35) (ci := 9) (C := RX9) (T := TX9) (N := 17) hx hb hts inX9 hown hK hP 0 rfl rfl 1 (by decide) fl13 (fun _ h9 => h9) rfl dX9_undo_35 ?_
      refine lv_bipush (v := (76 : Int32)) (pc := 38) hx hb dX9_undo_38 (by decide) ?_
      refine lv_aload_n (pc := 40) hx hb dX9_undo_40 rfl (lv_at hl 0 rfl) ?_
      refine va_get (pc := 41) (ci := 9) (C := RX9) (T := TX9) (N := 17) hx hb hts inX9 hown hK hP 0 rfl rfl 2 (by decide) fl61 (fun _ h9 => h9) rfl dX9_undo_41 ?_
      refine lv_imul (pc := 44) hx hb dX9_undo_44 ?_
      refine lv_aload_n (pc := 45) hx hb dX9_undo_45 rfl (lv_at hl 0 rfl) ?_
      refine va_get (pc := 46) (ci := 9) (C := RX9) (T := TX9) (N := 17) hx hb hts inX9 hown hK hP 0 rfl rfl 0 (by decide) fl7 (fun _ h9 => h9) rfl dX9_undo_46 ?_
      refine lv_iconst (v := (0 : Int32)) (pc := 49) hx hb dX9_undo_49 (by decide) ?_
      refine lv_bipush (v := (76 : Int32)) (pc := 50) hx hb dX9_undo_50 (by decide) ?_
      obtain ⟨st_1, hC2, hF⟩ := ob1_e hF
      refine zS (pc := 52) (As := [.ref mpa, .int ((76 : Int32) * (deeds - p1)), .ref mst, .int (0 : Int32), .int (76 : Int32)]) (rest := []) (wr := [(mo, .inr (9, [.ref mst, .ref mpa, .int (deeds - p1), .ref mim, .ref mik, .int sd, .ref mbi, .ref mbk, .int ent, .ref mnr, .ref mia, .ref min, .ref mas, .ref mpr, .ref mfa, .ref mme, .ref mse]))]) (w2 := (wX9_undo cI cZ cM cS mo mst mpa mim mik mbi mbk mnr mia min mas mpr mfa mme mse (deeds - p1) sd ent st_1 past)) E (tX9_bring l D cI cZ cM cS mpa mst 1216 76 past st ((76 : Int32) * (deeds - p1)) (0 : Int32) (76 : Int32) hC2) 5 gX9_undo_X9_bring rfl rfl rfl (by decide +kernel) ⟨Nat.le_of_ble_eq_true rfl, Nat.le_of_ble_eq_true rfl⟩ hK hP hD hS hA [2, 1] [0] [0, 2, 1] (by decide) rfl rfl (by decide) (by decide) rfl (by decide) rfl hl.1 rfl (Nat.le_of_ble_eq_true rfl) dX9_undo_52 ⟨Nat.zero_le _, Nat.zero_le _⟩ (fun H locs hP hD hS => ?_)
      refine W.eq (g2 := F0 m 55 ls []) rfl ?_
      refine lv_aload_n (pc := 55) hx hb dX9_undo_55 rfl (lv_at hl 0 rfl) ?_
      refine va_get (pc := 56) (ci := 9) (C := RX9) (T := TX9) (N := 17) hx hb hts inX9 hown hK hP 0 rfl rfl 2 (by decide) fl61 (fun _ h9 => h9) rfl dX9_undo_56 ?_
      cases hF
      exact hRet _ _ _ _ rfl dX9_undo_59 hP hD hS
    · have hF := oif_f hF hc
      refine lv_ldc (v := (-1000000003 : Int32)) (pc := 21) hx hb hown cn187 dX9_undo_21 ?_
      cases hF
      exact hRet _ _ _ _ rfl dX9_undo_23 hP hD hS
  · have hF := oif_t hF hc
    refine lv_ldc (v := (-1000000002 : Int32)) (pc := 10) hx hb hown cn94 dX9_undo_10 ?_
    cases hF
    exact hRet _ _ _ _ rfl dX9_undo_12 hP hD hS
def fX9_write (p1 : Int32) (p2 : Int32) (deeds : Int32) (sd : Int32) (ent : Int32) (st : (Nat → Int32)) (bits : (Nat → Int32)) (bcls : (Nat → Int32)) : Option (Int32 × Int32 × (Nat → Int32) × (Nat → Int32)) := (ob1 (fX9_isItem p1 deeds sd ent st) (fun r_1 => (if r_1 = (0 : Int32) then (some ((-1000000001 : Int32), ent, bits, bcls)) else (if ent = (20 : Int32) then (some ((-1000000004 : Int32), ent, bits, bcls)) else (ogd ent 20 (ogd ent 20 (some ((ent + (1 : Int32)), (ent + (1 : Int32)), (upd bits (Int32.toNatClampNeg ent) p1), (upd bcls (Int32.toNatClampNeg ent) p2)))))))))
abbrev wX9_write (cI cZ cM cS : ClassId) (mo mst mpa mim mik mbi mbk mnr mia min mas mpr mfa mme mse : Nat) (deeds : Int32) (sd : Int32) (ent : Int32) (st : (Nat → Int32)) (bits : (Nat → Int32)) (bcls : (Nat → Int32)) : va_W := [(mo, .inr (9, [.ref mst, .ref mpa, .int deeds, .ref mim, .ref mik, .int sd, .ref mbi, .ref mbk, .int ent, .ref mnr, .ref mia, .ref min, .ref mas, .ref mpr, .ref mfa, .ref mme, .ref mse])), (mst, .inl (cI, 76, .inl st)), (mbi, .inl (cI, 20, .inl bits)), (mbk, .inl (cI, 20, .inl bcls))]
set_option maxHeartbeats 4000000 in
set_option maxRecDepth 100000 in
theorem tX9_write (l : Launch) (D : va_G) (cI cZ cM cS : ClassId) (mo mst mpa mim mik mbi mbk mnr mia min mas mpr mfa mme mse : Nat) (deeds : Int32) (sd : Int32) (ent : Int32) (st : (Nat → Int32)) (bits : (Nat → Int32)) (bcls : (Nat → Int32)) (p1 : Int32) (p2 : Int32) {r : Int32} {ent' : Int32} {bits' : (Nat → Int32)} {bcls' : (Nat → Int32)} (hF : fX9_write p1 p2 deeds sd ent st bits bcls = some (r, ent', bits', bcls')) : zCW l yX9_write wsX9_write (zRm 2 43) D (zTy cI cZ cM cS) [.ref mo, .int p1, .int p2] (wX9_write cI cZ cM cS mo mst mpa mim mik mbi mbk mnr mia min mas mpr mfa mme mse deeds sd ent st bits bcls) (wX9_write cI cZ cM cS mo mst mpa mim mik mbi mbk mnr mia min mas mpr mfa mme mse deeds sd ent' st bits' bcls') (some (.int r)) := by
  unfold fX9_write at hF
  refine zCW_ofi (cc := cX9_write) (maxL := 3) (own := RX9) (by decide) rfl rfl (Nat.le_of_ble_eq_true rfl) (fun p e s m args below meth c Q ls A E hA hK hP hD hRet hS hl => ?_)
  refine zgen (fun H locs hP hS => ?_) hP hS
  have hl : lv_has ls 3 [(0, .ref mo), (1, .int p1), (2, .int p2)] := hl
  obtain ⟨hx, hb, hml, hown, hts⟩ := id E
  have inX9 : ∀ w ∈ u_ws RX9 TX9 17, w ∈ wsX9_write := by decide +kernel
  have fl143 := hts (.fieldLink RX9 143 "SplitClassesModel" "entries" "I") (by decide +kernel)
  have fl23 := hts (.fieldLink RX9 23 "SplitClassesModel" "bookItem" "[I") (by decide +kernel)
  have fl26 := hts (.fieldLink RX9 26 "SplitClassesModel" "bookClass" "[I") (by decide +kernel)
  have cn188 := hts (.constant RX9 188 (-1000000004)) (by decide +kernel)
  have cn93 := hts (.constant RX9 93 (-1000000001)) (by decide +kernel)
  refine lv_aload_n (pc := 0) hx hb dX9_write_0 rfl (lv_at hl 0 rfl) ?_
  refine lv_iload_n (pc := 1) hx hb dX9_write_1 rfl (lv_at hl 1 rfl) ?_
  obtain ⟨r_1, hC1, hF⟩ := ob1_e hF
  refine zVr (pc := 2) (As := [.int p1]) (rest := []) E (tX9_isItem l D cI cZ cM cS mo mst mpa mim mik mbi mbk mnr mia min mas mpr mfa mme mse deeds sd ent st p1 hC1) 1 gX9_write_X9_isItem rfl rfl rfl (by decide +kernel) ⟨Nat.le_of_ble_eq_true rfl, Nat.le_of_ble_eq_true rfl⟩ hK hP [0, 1] rfl 0 9 rfl rfl rfl rfl hl.1 rfl (Nat.le_of_ble_eq_true rfl) dX9_write_2 ⟨Nat.zero_le _, Nat.zero_le _⟩ ?_
  refine lv_if_ne (pc := 5) (tgt := 11) hx hb dX9_write_5 (by decide) (fun hc => ?_) (fun hc => ?_)
  · have hF := oif_f hF hc
    refine lv_aload_n (pc := 11) hx hb dX9_write_11 rfl (lv_at hl 0 rfl) ?_
    refine va_get (pc := 12) (ci := 9) (C := RX9) (T := TX9) (N := 17) hx hb hts inX9 hown hK hP 0 rfl rfl 8 (by decide) fl143 (fun _ h9 => h9) rfl dX9_write_12 ?_
    refine lv_bipush (v := (20 : Int32)) (pc := 15) hx hb dX9_write_15 (by decide) ?_
    refine lv_icmp_ne (pc := 17) (tgt := 23) hx hb dX9_write_17 (by decide) (fun hc => ?_) (fun hc => ?_)
    · have hF := oif_f hF hc
      refine lv_aload_n (pc := 23) hx hb dX9_write_23 rfl (lv_at hl 0 rfl) ?_
      refine va_get (pc := 24) (ci := 9) (C := RX9) (T := TX9) (N := 17) hx hb hts inX9 hown hK hP 0 rfl rfl 6 (by decide) fl23 (fun _ h9 => h9) rfl dX9_write_24 ?_
      refine lv_aload_n (pc := 27) hx hb dX9_write_27 rfl (lv_at hl 0 rfl) ?_
      refine va_get (pc := 28) (ci := 9) (C := RX9) (T := TX9) (N := 17) hx hb hts inX9 hown hK hP 0 rfl rfl 8 (by decide) fl143 (fun _ h9 => h9) rfl dX9_write_28 ?_
      refine lv_iload_n (pc := 31) hx hb dX9_write_31 rfl (lv_at hl 1 rfl) ?_
      obtain ⟨hg2, hF⟩ := ogd_e hF
      refine va_iast (pc := 32) hx hb hK hP hD hS 2 0 rfl rfl hg2 dX9_write_32 (fun H locs hP hD hS => ?_)
      have hP : va_P D vwCl (wX9_write cI cZ cM cS mo mst mpa mim mik mbi mbk mnr mia min mas mpr mfa mme mse deeds sd ent st (upd bits (Int32.toNatClampNeg ent) p1) bcls) H := hP
      have hD : va_D A (wX9_write cI cZ cM cS mo mst mpa mim mik mbi mbk mnr mia min mas mpr mfa mme mse deeds sd ent st (upd bits (Int32.toNatClampNeg ent) p1) bcls) := hD
      refine lv_aload_n (pc := 33) hx hb dX9_write_33 rfl (lv_at hl 0 rfl) ?_
      refine va_get (pc := 34) (ci := 9) (C := RX9) (T := TX9) (N := 17) hx hb hts inX9 hown hK hP 0 rfl rfl 7 (by decide) fl26 (fun _ h9 => h9) rfl dX9_write_34 ?_
      refine lv_aload_n (pc := 37) hx hb dX9_write_37 rfl (lv_at hl 0 rfl) ?_
      refine va_get (pc := 38) (ci := 9) (C := RX9) (T := TX9) (N := 17) hx hb hts inX9 hown hK hP 0 rfl rfl 8 (by decide) fl143 (fun _ h9 => h9) rfl dX9_write_38 ?_
      refine lv_iload_n (pc := 41) hx hb dX9_write_41 rfl (lv_at hl 2 rfl) ?_
      obtain ⟨hg3, hF⟩ := ogd_e hF
      refine va_iast (pc := 42) hx hb hK hP hD hS 3 0 rfl rfl hg3 dX9_write_42 (fun H locs hP hD hS => ?_)
      have hP : va_P D vwCl (wX9_write cI cZ cM cS mo mst mpa mim mik mbi mbk mnr mia min mas mpr mfa mme mse deeds sd ent st (upd bits (Int32.toNatClampNeg ent) p1) (upd bcls (Int32.toNatClampNeg ent) p2)) H := hP
      have hD : va_D A (wX9_write cI cZ cM cS mo mst mpa mim mik mbi mbk mnr mia min mas mpr mfa mme mse deeds sd ent st (upd bits (Int32.toNatClampNeg ent) p1) (upd bcls (Int32.toNatClampNeg ent) p2)) := hD
      refine lv_aload_n (pc := 43) hx hb dX9_write_43 rfl (lv_at hl 0 rfl) ?_
      refine lv_dup (pc := 44) hx hb dX9_write_44 rfl ?_
      refine va_get (pc := 45) (ci := 9) (C := RX9) (T := TX9) (N := 17) hx hb hts inX9 hown hK hP 0 rfl rfl 8 (by decide) fl143 (fun _ h9 => h9) rfl dX9_write_45 ?_
      refine lv_iconst (v := (1 : Int32)) (pc := 48) hx hb dX9_write_48 (by decide) ?_
      refine lv_iadd (pc := 49) hx hb dX9_write_49 ?_
      refine va_put (pc := 50) (D := D) (ci := 9) (v := .int (ent + (1 : Int32))) (ty := .int) (C := RX9) (T := TX9) (N := 17) hx hb hts inX9 tyX9 tyX9_ok nmX9 hown hK hP hD hS 0 rfl rfl 8 (by decide) fl143 (fun _ h9 => h9) rfl (by decide +kernel) rfl rfl (Nat.le_of_ble_eq_true rfl) dX9_write_50 (fun H locs hP hD hS => ?_)
      have hP : va_P D vwCl (wX9_write cI cZ cM cS mo mst mpa mim mik mbi mbk mnr mia min mas mpr mfa mme mse deeds sd (ent + (1 : Int32)) st (upd bits (Int32.toNatClampNeg ent) p1) (upd bcls (Int32.toNatClampNeg ent) p2)) H := hP
      have hD : va_D A (wX9_write cI cZ cM cS mo mst mpa mim mik mbi mbk mnr mia min mas mpr mfa mme mse deeds sd (ent + (1 : Int32)) st (upd bits (Int32.toNatClampNeg ent) p1) (upd bcls (Int32.toNatClampNeg ent) p2)) := hD
      refine lv_aload_n (pc := 53) hx hb dX9_write_53 rfl (lv_at hl 0 rfl) ?_
      refine va_get (pc := 54) (ci := 9) (C := RX9) (T := TX9) (N := 17) hx hb hts inX9 hown hK hP 0 rfl rfl 8 (by decide) fl143 (fun _ h9 => h9) rfl dX9_write_54 ?_
      cases hF
      exact hRet _ _ _ _ rfl dX9_write_57 hP hD hS
    · have hF := oif_t hF hc
      refine lv_ldc (v := (-1000000004 : Int32)) (pc := 20) hx hb hown cn188 dX9_write_20 ?_
      cases hF
      exact hRet _ _ _ _ rfl dX9_write_22 hP hD hS
  · have hF := oif_t hF hc
    refine lv_ldc (v := (-1000000001 : Int32)) (pc := 8) hx hb hown cn93 dX9_write_8 ?_
    cases hF
    exact hRet _ _ _ _ rfl dX9_write_10 hP hD hS
def fX9_tear (deeds : Int32) (sd : Int32) (ent : Int32) : Option (Int32 × Int32) := (some (ent, (0 : Int32)))
abbrev wX9_tear (cI cZ cM cS : ClassId) (mo mst mpa mim mik mbi mbk mnr mia min mas mpr mfa mme mse : Nat) (deeds : Int32) (sd : Int32) (ent : Int32) : va_W := [(mo, .inr (9, [.ref mst, .ref mpa, .int deeds, .ref mim, .ref mik, .int sd, .ref mbi, .ref mbk, .int ent, .ref mnr, .ref mia, .ref min, .ref mas, .ref mpr, .ref mfa, .ref mme, .ref mse]))]
set_option maxHeartbeats 4000000 in
set_option maxRecDepth 100000 in
theorem tX9_tear (l : Launch) (D : va_G) (cI cZ cM cS : ClassId) (mo mst mpa mim mik mbi mbk mnr mia min mas mpr mfa mme mse : Nat) (deeds : Int32) (sd : Int32) (ent : Int32) {r : Int32} {ent' : Int32} (hF : fX9_tear deeds sd ent = some (r, ent')) : zCW l yX9_tear wsX9_tear (zRm 0 0) D (zTy cI cZ cM cS) [.ref mo] (wX9_tear cI cZ cM cS mo mst mpa mim mik mbi mbk mnr mia min mas mpr mfa mme mse deeds sd ent) (wX9_tear cI cZ cM cS mo mst mpa mim mik mbi mbk mnr mia min mas mpr mfa mme mse deeds sd ent') (some (.int r)) := by
  unfold fX9_tear at hF
  refine zCW_ofi (cc := cX9_tear) (maxL := 2) (own := RX9) (by decide) rfl rfl (Nat.le_of_ble_eq_true rfl) (fun p e s m args below meth c Q ls A E hA hK hP hD hRet hS hl => ?_)
  refine zgen (fun H locs hP hS => ?_) hP hS
  have hl : lv_has ls 2 [(0, .ref mo)] := hl
  obtain ⟨hx, hb, hml, hown, hts⟩ := id E
  have inX9 : ∀ w ∈ u_ws RX9 TX9 17, w ∈ wsX9_tear := by decide +kernel
  have fl143 := hts (.fieldLink RX9 143 "SplitClassesModel" "entries" "I") (by decide +kernel)
  refine lv_aload_n (pc := 0) hx hb dX9_tear_0 rfl (lv_at hl 0 rfl) ?_
  refine va_get (pc := 1) (ci := 9) (C := RX9) (T := TX9) (N := 17) hx hb hts inX9 hown hK hP 0 rfl rfl 8 (by decide) fl143 (fun _ h9 => h9) rfl dX9_tear_1 ?_
  refine lv_istore_n (lv' := [(1, .int ent), (0, .ref mo)]) (pc := 4) hx hb dX9_tear_4 rfl hl (by decide) rfl (fun ls hl => ?_)
  refine lv_aload_n (pc := 5) hx hb dX9_tear_5 rfl (lv_at hl 1 rfl) ?_
  refine lv_iconst (v := (0 : Int32)) (pc := 6) hx hb dX9_tear_6 (by decide) ?_
  refine va_put (pc := 7) (D := D) (ci := 9) (v := .int (0 : Int32)) (ty := .int) (C := RX9) (T := TX9) (N := 17) hx hb hts inX9 tyX9 tyX9_ok nmX9 hown hK hP hD hS 0 rfl rfl 8 (by decide) fl143 (fun _ h9 => h9) rfl (by decide +kernel) rfl rfl (Nat.le_of_ble_eq_true rfl) dX9_tear_7 (fun H locs hP hD hS => ?_)
  have hP : va_P D vwCl (wX9_tear cI cZ cM cS mo mst mpa mim mik mbi mbk mnr mia min mas mpr mfa mme mse deeds sd (0 : Int32)) H := hP
  have hD : va_D A (wX9_tear cI cZ cM cS mo mst mpa mim mik mbi mbk mnr mia min mas mpr mfa mme mse deeds sd (0 : Int32)) := hD
  refine lv_iload_n (pc := 10) hx hb dX9_tear_10 rfl (lv_at hl 0 rfl) ?_
  cases hF
  exact hRet _ _ _ _ rfl dX9_tear_11 hP hD hS
def fX9_seed (p1 : Int32) (deeds : Int32) (sd : Int32) (ent : Int32) : Option (Int32 × Int32) := (if (0 : Int32) ≤ p1 then (some (sd, p1)) else (some ((-1000000002 : Int32), sd)))
abbrev wX9_seed (cI cZ cM cS : ClassId) (mo mst mpa mim mik mbi mbk mnr mia min mas mpr mfa mme mse : Nat) (deeds : Int32) (sd : Int32) (ent : Int32) : va_W := [(mo, .inr (9, [.ref mst, .ref mpa, .int deeds, .ref mim, .ref mik, .int sd, .ref mbi, .ref mbk, .int ent, .ref mnr, .ref mia, .ref min, .ref mas, .ref mpr, .ref mfa, .ref mme, .ref mse]))]
set_option maxHeartbeats 4000000 in
set_option maxRecDepth 100000 in
theorem tX9_seed (l : Launch) (D : va_G) (cI cZ cM cS : ClassId) (mo mst mpa mim mik mbi mbk mnr mia min mas mpr mfa mme mse : Nat) (deeds : Int32) (sd : Int32) (ent : Int32) (p1 : Int32) {r : Int32} {sd' : Int32} (hF : fX9_seed p1 deeds sd ent = some (r, sd')) : zCW l yX9_seed wsX9_seed (zRm 0 0) D (zTy cI cZ cM cS) [.ref mo, .int p1] (wX9_seed cI cZ cM cS mo mst mpa mim mik mbi mbk mnr mia min mas mpr mfa mme mse deeds sd ent) (wX9_seed cI cZ cM cS mo mst mpa mim mik mbi mbk mnr mia min mas mpr mfa mme mse deeds sd' ent) (some (.int r)) := by
  unfold fX9_seed at hF
  refine zCW_ofi (cc := cX9_seed) (maxL := 3) (own := RX9) (by decide) rfl rfl (Nat.le_of_ble_eq_true rfl) (fun p e s m args below meth c Q ls A E hA hK hP hD hRet hS hl => ?_)
  refine zgen (fun H locs hP hS => ?_) hP hS
  have hl : lv_has ls 3 [(0, .ref mo), (1, .int p1)] := hl
  obtain ⟨hx, hb, hml, hown, hts⟩ := id E
  have inX9 : ∀ w ∈ u_ws RX9 TX9 17, w ∈ wsX9_seed := by decide +kernel
  have fl158 := hts (.fieldLink RX9 158 "SplitClassesModel" "seedNow" "I") (by decide +kernel)
  have cn94 := hts (.constant RX9 94 (-1000000002)) (by decide +kernel)
  refine lv_iload_n (pc := 0) hx hb dX9_seed_0 rfl (lv_at hl 1 rfl) ?_
  refine lv_if_ge (pc := 1) (tgt := 7) hx hb dX9_seed_1 (by decide) (fun hc => ?_) (fun hc => ?_)
  · have hF := oif_t hF hc
    refine lv_aload_n (pc := 7) hx hb dX9_seed_7 rfl (lv_at hl 0 rfl) ?_
    refine va_get (pc := 8) (ci := 9) (C := RX9) (T := TX9) (N := 17) hx hb hts inX9 hown hK hP 0 rfl rfl 5 (by decide) fl158 (fun _ h9 => h9) rfl dX9_seed_8 ?_
    refine lv_istore_n (lv' := [(2, .int sd), (0, .ref mo), (1, .int p1)]) (pc := 11) hx hb dX9_seed_11 rfl hl (by decide) rfl (fun ls hl => ?_)
    refine lv_aload_n (pc := 12) hx hb dX9_seed_12 rfl (lv_at hl 1 rfl) ?_
    refine lv_iload_n (pc := 13) hx hb dX9_seed_13 rfl (lv_at hl 2 rfl) ?_
    refine va_put (pc := 14) (D := D) (ci := 9) (v := .int p1) (ty := .int) (C := RX9) (T := TX9) (N := 17) hx hb hts inX9 tyX9 tyX9_ok nmX9 hown hK hP hD hS 0 rfl rfl 5 (by decide) fl158 (fun _ h9 => h9) rfl (by decide +kernel) rfl rfl (Nat.le_of_ble_eq_true rfl) dX9_seed_14 (fun H locs hP hD hS => ?_)
    have hP : va_P D vwCl (wX9_seed cI cZ cM cS mo mst mpa mim mik mbi mbk mnr mia min mas mpr mfa mme mse deeds p1 ent) H := hP
    have hD : va_D A (wX9_seed cI cZ cM cS mo mst mpa mim mik mbi mbk mnr mia min mas mpr mfa mme mse deeds p1 ent) := hD
    refine lv_iload_n (pc := 17) hx hb dX9_seed_17 rfl (lv_at hl 0 rfl) ?_
    cases hF
    exact hRet _ _ _ _ rfl dX9_seed_18 hP hD hS
  · have hF := oif_f hF hc
    refine lv_ldc (v := (-1000000002 : Int32)) (pc := 4) hx hb hown cn94 dX9_seed_4 ?_
    cases hF
    exact hRet _ _ _ _ rfl dX9_seed_6 hP hD hS
def fX9_keep (p1 : Int32) (deeds : Int32) (sd : Int32) (ent : Int32) (st : (Nat → Int32)) (img : (Nat → Int32)) (kept : (Nat → Int32)) : Option (Int32 × Int32 × (Nat → Int32) × (Nat → Int32)) := (ob1 (fX9_in p1 (0 : Int32) (1 : Int32)) (fun r_1 => (if r_1 = (0 : Int32) then (some ((-1000000001 : Int32), deeds, img, kept)) else (ogd p1 2 (ob1 (fX9_bring 76 154 (0 : Int32) ((77 : Int32) * p1) (76 : Int32) st img) (fun img_1 => (ogd (((77 : Int32) * p1) + (76 : Int32)) 154 (some ((1 : Int32), (0 : Int32), (upd img_1 (Int32.toNatClampNeg (((77 : Int32) * p1) + (76 : Int32))) sd), (upd kept (Int32.toNatClampNeg p1) (1 : Int32)))))))))))
abbrev wX9_keep (cI cZ cM cS : ClassId) (mo mst mpa mim mik mbi mbk mnr mia min mas mpr mfa mme mse : Nat) (deeds : Int32) (sd : Int32) (ent : Int32) (st : (Nat → Int32)) (img : (Nat → Int32)) (kept : (Nat → Int32)) : va_W := [(mo, .inr (9, [.ref mst, .ref mpa, .int deeds, .ref mim, .ref mik, .int sd, .ref mbi, .ref mbk, .int ent, .ref mnr, .ref mia, .ref min, .ref mas, .ref mpr, .ref mfa, .ref mme, .ref mse])), (mst, .inl (cI, 76, .inl st)), (mim, .inl (cI, 154, .inl img)), (mik, .inl (cZ, 2, .inl kept))]
set_option maxHeartbeats 4000000 in
set_option maxRecDepth 100000 in
theorem tX9_keep (l : Launch) (D : va_G) (cI cZ cM cS : ClassId) (mo mst mpa mim mik mbi mbk mnr mia min mas mpr mfa mme mse : Nat) (deeds : Int32) (sd : Int32) (ent : Int32) (st : (Nat → Int32)) (img : (Nat → Int32)) (kept : (Nat → Int32)) (p1 : Int32) {r : Int32} {deeds' : Int32} {img' : (Nat → Int32)} {kept' : (Nat → Int32)} (hF : fX9_keep p1 deeds sd ent st img kept = some (r, deeds', img', kept')) : zCW l yX9_keep wsX9_keep (zRm 1 25) D (zTy cI cZ cM cS) [.ref mo, .int p1] (wX9_keep cI cZ cM cS mo mst mpa mim mik mbi mbk mnr mia min mas mpr mfa mme mse deeds sd ent st img kept) (wX9_keep cI cZ cM cS mo mst mpa mim mik mbi mbk mnr mia min mas mpr mfa mme mse deeds' sd ent st img' kept') (some (.int r)) := by
  unfold fX9_keep at hF
  refine zCW_ofi (cc := cX9_keep) (maxL := 2) (own := RX9) (by decide) rfl rfl (Nat.le_of_ble_eq_true rfl) (fun p e s m args below meth c Q ls A E hA hK hP hD hRet hS hl => ?_)
  refine zgen (fun H locs hP hS => ?_) hP hS
  have hl : lv_has ls 2 [(0, .ref mo), (1, .int p1)] := hl
  obtain ⟨hx, hb, hml, hown, hts⟩ := id E
  have inX9 : ∀ w ∈ u_ws RX9 TX9 17, w ∈ wsX9_keep := by decide +kernel
  have fl158 := hts (.fieldLink RX9 158 "SplitClassesModel" "seedNow" "I") (by decide +kernel)
  have fl16 := hts (.fieldLink RX9 16 "SplitClassesModel" "images" "[I") (by decide +kernel)
  have fl19 := hts (.fieldLink RX9 19 "SplitClassesModel" "isKept" "[Z") (by decide +kernel)
  have fl61 := hts (.fieldLink RX9 61 "SplitClassesModel" "deeds" "I") (by decide +kernel)
  have fl7 := hts (.fieldLink RX9 7 "SplitClassesModel" "st" "[I") (by decide +kernel)
  have cn93 := hts (.constant RX9 93 (-1000000001)) (by decide +kernel)
  refine lv_iload_n (pc := 0) hx hb dX9_keep_0 rfl (lv_at hl 1 rfl) ?_
  refine lv_iconst (v := (0 : Int32)) (pc := 1) hx hb dX9_keep_1 (by decide) ?_
  refine lv_iconst (v := (1 : Int32)) (pc := 2) hx hb dX9_keep_2 (by decide) ?_
  obtain ⟨r_1, hC1, hF⟩ := ob1_e hF
  refine zSr (pc := 3) (As := [.int p1, .int (0 : Int32), .int (1 : Int32)]) (rest := []) E (tX9_in l D cI cZ cM cS p1 (0 : Int32) (1 : Int32) hC1) 3 gX9_keep_X9_in rfl rfl rfl (by decide +kernel) ⟨Nat.le_of_ble_eq_true rfl, Nat.le_of_ble_eq_true rfl⟩ hK hP [] rfl rfl hl.1 rfl (Nat.le_of_ble_eq_true rfl) dX9_keep_3 ⟨Nat.zero_le _, Nat.zero_le _⟩ ?_
  refine lv_if_ne (pc := 6) (tgt := 12) hx hb dX9_keep_6 (by decide) (fun hc => ?_) (fun hc => ?_)
  · have hF := oif_f hF hc
    refine lv_aload_n (pc := 12) hx hb dX9_keep_12 rfl (lv_at hl 0 rfl) ?_
    refine va_get (pc := 13) (ci := 9) (C := RX9) (T := TX9) (N := 17) hx hb hts inX9 hown hK hP 0 rfl rfl 4 (by decide) fl19 (fun _ h9 => h9) rfl dX9_keep_13 ?_
    refine lv_iload_n (pc := 16) hx hb dX9_keep_16 rfl (lv_at hl 1 rfl) ?_
    refine lv_iconst (v := (1 : Int32)) (pc := 17) hx hb dX9_keep_17 (by decide) ?_
    obtain ⟨hg2, hF⟩ := ogd_e hF
    refine va_zast (pc := 18) hx hb hK hP hD hS 3 1 rfl rfl hg2 dX9_keep_18 (fun H locs hP hD hS => ?_)
    have hP : va_P D vwCl (wX9_keep cI cZ cM cS mo mst mpa mim mik mbi mbk mnr mia min mas mpr mfa mme mse deeds sd ent st img (upd kept (Int32.toNatClampNeg p1) (1 : Int32))) H := hP
    have hD : va_D A (wX9_keep cI cZ cM cS mo mst mpa mim mik mbi mbk mnr mia min mas mpr mfa mme mse deeds sd ent st img (upd kept (Int32.toNatClampNeg p1) (1 : Int32))) := hD
    refine lv_aload_n (pc := 19) hx hb dX9_keep_19 rfl (lv_at hl 0 rfl) ?_
    refine va_get (pc := 20) (ci := 9) (C := RX9) (T := TX9) (N := 17) hx hb hts inX9 hown hK hP 0 rfl rfl 0 (by decide) fl7 (fun _ h9 => h9) rfl dX9_keep_20 ?_
    refine lv_iconst (v := (0 : Int32)) (pc := 23) hx hb dX9_keep_23 (by decide) ?_
    refine lv_aload_n (pc := 24) hx hb dX9_keep_24 rfl (lv_at hl 0 rfl) ?_
    refine va_get (pc := 25) (ci := 9) (C := RX9) (T := TX9) (N := 17) hx hb hts inX9 hown hK hP 0 rfl rfl 3 (by decide) fl16 (fun _ h9 => h9) rfl dX9_keep_25 ?_
    refine lv_bipush (v := (77 : Int32)) (pc := 28) hx hb dX9_keep_28 (by decide) ?_
    refine lv_iload_n (pc := 30) hx hb dX9_keep_30 rfl (lv_at hl 1 rfl) ?_
    refine lv_imul (pc := 31) hx hb dX9_keep_31 ?_
    refine lv_bipush (v := (76 : Int32)) (pc := 32) hx hb dX9_keep_32 (by decide) ?_
    obtain ⟨img_1, hC3, hF⟩ := ob1_e hF
    refine zS (pc := 34) (As := [.ref mst, .int (0 : Int32), .ref mim, .int ((77 : Int32) * p1), .int (76 : Int32)]) (rest := []) (wr := [(mo, .inr (9, [.ref mst, .ref mpa, .int deeds, .ref mim, .ref mik, .int sd, .ref mbi, .ref mbk, .int ent, .ref mnr, .ref mia, .ref min, .ref mas, .ref mpr, .ref mfa, .ref mme, .ref mse])), (mik, .inl (cZ, 2, .inl (upd kept (Int32.toNatClampNeg p1) (1 : Int32))))]) (w2 := (wX9_keep cI cZ cM cS mo mst mpa mim mik mbi mbk mnr mia min mas mpr mfa mme mse deeds sd ent st img_1 (upd kept (Int32.toNatClampNeg p1) (1 : Int32)))) E (tX9_bring l D cI cZ cM cS mst mim 76 154 st img (0 : Int32) ((77 : Int32) * p1) (76 : Int32) hC3) 5 gX9_keep_X9_bring rfl rfl rfl (by decide +kernel) ⟨Nat.le_of_ble_eq_true rfl, Nat.le_of_ble_eq_true rfl⟩ hK hP hD hS hA [1, 2] [0, 3] [0, 2, 3, 1] (by decide) rfl rfl (by decide) (by decide) rfl (by decide) rfl hl.1 rfl (Nat.le_of_ble_eq_true rfl) dX9_keep_34 ⟨Nat.zero_le _, Nat.zero_le _⟩ (fun H locs hP hD hS => ?_)
    refine W.eq (g2 := F0 m 37 ls []) rfl ?_
    refine lv_aload_n (pc := 37) hx hb dX9_keep_37 rfl (lv_at hl 0 rfl) ?_
    refine va_get (pc := 38) (ci := 9) (C := RX9) (T := TX9) (N := 17) hx hb hts inX9 hown hK hP 0 rfl rfl 3 (by decide) fl16 (fun _ h9 => h9) rfl dX9_keep_38 ?_
    refine lv_bipush (v := (77 : Int32)) (pc := 41) hx hb dX9_keep_41 (by decide) ?_
    refine lv_iload_n (pc := 43) hx hb dX9_keep_43 rfl (lv_at hl 1 rfl) ?_
    refine lv_imul (pc := 44) hx hb dX9_keep_44 ?_
    refine lv_bipush (v := (76 : Int32)) (pc := 45) hx hb dX9_keep_45 (by decide) ?_
    refine lv_iadd (pc := 47) hx hb dX9_keep_47 ?_
    refine lv_aload_n (pc := 48) hx hb dX9_keep_48 rfl (lv_at hl 0 rfl) ?_
    refine va_get (pc := 49) (ci := 9) (C := RX9) (T := TX9) (N := 17) hx hb hts inX9 hown hK hP 0 rfl rfl 5 (by decide) fl158 (fun _ h9 => h9) rfl dX9_keep_49 ?_
    obtain ⟨hg4, hF⟩ := ogd_e hF
    refine va_iast (pc := 52) hx hb hK hP hD hS 2 0 rfl rfl hg4 dX9_keep_52 (fun H locs hP hD hS => ?_)
    have hP : va_P D vwCl (wX9_keep cI cZ cM cS mo mst mpa mim mik mbi mbk mnr mia min mas mpr mfa mme mse deeds sd ent st (upd img_1 (Int32.toNatClampNeg (((77 : Int32) * p1) + (76 : Int32))) sd) (upd kept (Int32.toNatClampNeg p1) (1 : Int32))) H := hP
    have hD : va_D A (wX9_keep cI cZ cM cS mo mst mpa mim mik mbi mbk mnr mia min mas mpr mfa mme mse deeds sd ent st (upd img_1 (Int32.toNatClampNeg (((77 : Int32) * p1) + (76 : Int32))) sd) (upd kept (Int32.toNatClampNeg p1) (1 : Int32))) := hD
    refine lv_aload_n (pc := 53) hx hb dX9_keep_53 rfl (lv_at hl 0 rfl) ?_
    refine lv_iconst (v := (0 : Int32)) (pc := 54) hx hb dX9_keep_54 (by decide) ?_
    refine va_put (pc := 55) (D := D) (ci := 9) (v := .int (0 : Int32)) (ty := .int) (C := RX9) (T := TX9) (N := 17) hx hb hts inX9 tyX9 tyX9_ok nmX9 hown hK hP hD hS 0 rfl rfl 2 (by decide) fl61 (fun _ h9 => h9) rfl (by decide +kernel) rfl rfl (Nat.le_of_ble_eq_true rfl) dX9_keep_55 (fun H locs hP hD hS => ?_)
    have hP : va_P D vwCl (wX9_keep cI cZ cM cS mo mst mpa mim mik mbi mbk mnr mia min mas mpr mfa mme mse (0 : Int32) sd ent st (upd img_1 (Int32.toNatClampNeg (((77 : Int32) * p1) + (76 : Int32))) sd) (upd kept (Int32.toNatClampNeg p1) (1 : Int32))) H := hP
    have hD : va_D A (wX9_keep cI cZ cM cS mo mst mpa mim mik mbi mbk mnr mia min mas mpr mfa mme mse (0 : Int32) sd ent st (upd img_1 (Int32.toNatClampNeg (((77 : Int32) * p1) + (76 : Int32))) sd) (upd kept (Int32.toNatClampNeg p1) (1 : Int32))) := hD
    refine lv_iconst (v := (1 : Int32)) (pc := 58) hx hb dX9_keep_58 (by decide) ?_
    cases hF
    exact hRet _ _ _ _ rfl dX9_keep_59 hP hD hS
  · have hF := oif_t hF hc
    refine lv_ldc (v := (-1000000001 : Int32)) (pc := 9) hx hb hown cn93 dX9_keep_9 ?_
    cases hF
    exact hRet _ _ _ _ rfl dX9_keep_11 hP hD hS
def fX9_goBack (p1 : Int32) (deeds : Int32) (sd : Int32) (ent : Int32) (st : (Nat → Int32)) (img : (Nat → Int32)) (kept : (Nat → Int32)) : Option (Int32 × Int32 × Int32 × (Nat → Int32)) := (ob1 (fX9_in p1 (0 : Int32) (1 : Int32)) (fun r_1 => (if r_1 = (0 : Int32) then (some ((-1000000001 : Int32), deeds, sd, st)) else (ogd p1 2 (if (kept (Int32.toNatClampNeg p1)) = (0 : Int32) then (some ((-1000000003 : Int32), deeds, sd, st)) else (ob1 (fX9_bring 154 76 ((77 : Int32) * p1) (0 : Int32) (76 : Int32) img st) (fun st_1 => (ogd (((77 : Int32) * p1) + (76 : Int32)) 154 (some ((1 : Int32), (0 : Int32), (img (Int32.toNatClampNeg (((77 : Int32) * p1) + (76 : Int32)))), st_1))))))))))
abbrev wX9_goBack (cI cZ cM cS : ClassId) (mo mst mpa mim mik mbi mbk mnr mia min mas mpr mfa mme mse : Nat) (deeds : Int32) (sd : Int32) (ent : Int32) (st : (Nat → Int32)) (img : (Nat → Int32)) (kept : (Nat → Int32)) : va_W := [(mo, .inr (9, [.ref mst, .ref mpa, .int deeds, .ref mim, .ref mik, .int sd, .ref mbi, .ref mbk, .int ent, .ref mnr, .ref mia, .ref min, .ref mas, .ref mpr, .ref mfa, .ref mme, .ref mse])), (mst, .inl (cI, 76, .inl st)), (mim, .inl (cI, 154, .inl img)), (mik, .inl (cZ, 2, .inl kept))]
set_option maxHeartbeats 4000000 in
set_option maxRecDepth 100000 in
theorem tX9_goBack (l : Launch) (D : va_G) (cI cZ cM cS : ClassId) (mo mst mpa mim mik mbi mbk mnr mia min mas mpr mfa mme mse : Nat) (deeds : Int32) (sd : Int32) (ent : Int32) (st : (Nat → Int32)) (img : (Nat → Int32)) (kept : (Nat → Int32)) (p1 : Int32) {r : Int32} {deeds' : Int32} {sd' : Int32} {st' : (Nat → Int32)} (hF : fX9_goBack p1 deeds sd ent st img kept = some (r, deeds', sd', st')) : zCW l yX9_goBack wsX9_goBack (zRm 1 25) D (zTy cI cZ cM cS) [.ref mo, .int p1] (wX9_goBack cI cZ cM cS mo mst mpa mim mik mbi mbk mnr mia min mas mpr mfa mme mse deeds sd ent st img kept) (wX9_goBack cI cZ cM cS mo mst mpa mim mik mbi mbk mnr mia min mas mpr mfa mme mse deeds' sd' ent st' img kept) (some (.int r)) := by
  unfold fX9_goBack at hF
  refine zCW_ofi (cc := cX9_goBack) (maxL := 2) (own := RX9) (by decide) rfl rfl (Nat.le_of_ble_eq_true rfl) (fun p e s m args below meth c Q ls A E hA hK hP hD hRet hS hl => ?_)
  refine zgen (fun H locs hP hS => ?_) hP hS
  have hl : lv_has ls 2 [(0, .ref mo), (1, .int p1)] := hl
  obtain ⟨hx, hb, hml, hown, hts⟩ := id E
  have inX9 : ∀ w ∈ u_ws RX9 TX9 17, w ∈ wsX9_goBack := by decide +kernel
  have fl158 := hts (.fieldLink RX9 158 "SplitClassesModel" "seedNow" "I") (by decide +kernel)
  have fl16 := hts (.fieldLink RX9 16 "SplitClassesModel" "images" "[I") (by decide +kernel)
  have fl19 := hts (.fieldLink RX9 19 "SplitClassesModel" "isKept" "[Z") (by decide +kernel)
  have fl61 := hts (.fieldLink RX9 61 "SplitClassesModel" "deeds" "I") (by decide +kernel)
  have fl7 := hts (.fieldLink RX9 7 "SplitClassesModel" "st" "[I") (by decide +kernel)
  have cn187 := hts (.constant RX9 187 (-1000000003)) (by decide +kernel)
  have cn93 := hts (.constant RX9 93 (-1000000001)) (by decide +kernel)
  refine lv_iload_n (pc := 0) hx hb dX9_goBack_0 rfl (lv_at hl 1 rfl) ?_
  refine lv_iconst (v := (0 : Int32)) (pc := 1) hx hb dX9_goBack_1 (by decide) ?_
  refine lv_iconst (v := (1 : Int32)) (pc := 2) hx hb dX9_goBack_2 (by decide) ?_
  obtain ⟨r_1, hC1, hF⟩ := ob1_e hF
  refine zSr (pc := 3) (As := [.int p1, .int (0 : Int32), .int (1 : Int32)]) (rest := []) E (tX9_in l D cI cZ cM cS p1 (0 : Int32) (1 : Int32) hC1) 3 gX9_goBack_X9_in rfl rfl rfl (by decide +kernel) ⟨Nat.le_of_ble_eq_true rfl, Nat.le_of_ble_eq_true rfl⟩ hK hP [] rfl rfl hl.1 rfl (Nat.le_of_ble_eq_true rfl) dX9_goBack_3 ⟨Nat.zero_le _, Nat.zero_le _⟩ ?_
  refine lv_if_ne (pc := 6) (tgt := 12) hx hb dX9_goBack_6 (by decide) (fun hc => ?_) (fun hc => ?_)
  · have hF := oif_f hF hc
    refine lv_aload_n (pc := 12) hx hb dX9_goBack_12 rfl (lv_at hl 0 rfl) ?_
    refine va_get (pc := 13) (ci := 9) (C := RX9) (T := TX9) (N := 17) hx hb hts inX9 hown hK hP 0 rfl rfl 4 (by decide) fl19 (fun _ h9 => h9) rfl dX9_goBack_13 ?_
    refine lv_iload_n (pc := 16) hx hb dX9_goBack_16 rfl (lv_at hl 1 rfl) ?_
    obtain ⟨hg2, hF⟩ := ogd_e hF
    refine va_zald (pc := 17) hx hb hK hP 3 1 rfl rfl hg2 dX9_goBack_17 ?_
    refine lv_if_ne (pc := 18) (tgt := 24) hx hb dX9_goBack_18 (by decide) (fun hc => ?_) (fun hc => ?_)
    · have hF := oif_f hF hc
      refine lv_aload_n (pc := 24) hx hb dX9_goBack_24 rfl (lv_at hl 0 rfl) ?_
      refine va_get (pc := 25) (ci := 9) (C := RX9) (T := TX9) (N := 17) hx hb hts inX9 hown hK hP 0 rfl rfl 3 (by decide) fl16 (fun _ h9 => h9) rfl dX9_goBack_25 ?_
      refine lv_bipush (v := (77 : Int32)) (pc := 28) hx hb dX9_goBack_28 (by decide) ?_
      refine lv_iload_n (pc := 30) hx hb dX9_goBack_30 rfl (lv_at hl 1 rfl) ?_
      refine lv_imul (pc := 31) hx hb dX9_goBack_31 ?_
      refine lv_aload_n (pc := 32) hx hb dX9_goBack_32 rfl (lv_at hl 0 rfl) ?_
      refine va_get (pc := 33) (ci := 9) (C := RX9) (T := TX9) (N := 17) hx hb hts inX9 hown hK hP 0 rfl rfl 0 (by decide) fl7 (fun _ h9 => h9) rfl dX9_goBack_33 ?_
      refine lv_iconst (v := (0 : Int32)) (pc := 36) hx hb dX9_goBack_36 (by decide) ?_
      refine lv_bipush (v := (76 : Int32)) (pc := 37) hx hb dX9_goBack_37 (by decide) ?_
      obtain ⟨st_1, hC3, hF⟩ := ob1_e hF
      refine zS (pc := 39) (As := [.ref mim, .int ((77 : Int32) * p1), .ref mst, .int (0 : Int32), .int (76 : Int32)]) (rest := []) (wr := [(mo, .inr (9, [.ref mst, .ref mpa, .int deeds, .ref mim, .ref mik, .int sd, .ref mbi, .ref mbk, .int ent, .ref mnr, .ref mia, .ref min, .ref mas, .ref mpr, .ref mfa, .ref mme, .ref mse])), (mik, .inl (cZ, 2, .inl kept))]) (w2 := (wX9_goBack cI cZ cM cS mo mst mpa mim mik mbi mbk mnr mia min mas mpr mfa mme mse deeds sd ent st_1 img kept)) E (tX9_bring l D cI cZ cM cS mim mst 154 76 img st ((77 : Int32) * p1) (0 : Int32) (76 : Int32) hC3) 5 gX9_goBack_X9_bring rfl rfl rfl (by decide +kernel) ⟨Nat.le_of_ble_eq_true rfl, Nat.le_of_ble_eq_true rfl⟩ hK hP hD hS hA [2, 1] [0, 3] [0, 3, 2, 1] (by decide) rfl rfl (by decide) (by decide) rfl (by decide) rfl hl.1 rfl (Nat.le_of_ble_eq_true rfl) dX9_goBack_39 ⟨Nat.zero_le _, Nat.zero_le _⟩ (fun H locs hP hD hS => ?_)
      refine W.eq (g2 := F0 m 42 ls []) rfl ?_
      refine lv_aload_n (pc := 42) hx hb dX9_goBack_42 rfl (lv_at hl 0 rfl) ?_
      refine lv_aload_n (pc := 43) hx hb dX9_goBack_43 rfl (lv_at hl 0 rfl) ?_
      refine va_get (pc := 44) (ci := 9) (C := RX9) (T := TX9) (N := 17) hx hb hts inX9 hown hK hP 0 rfl rfl 3 (by decide) fl16 (fun _ h9 => h9) rfl dX9_goBack_44 ?_
      refine lv_bipush (v := (77 : Int32)) (pc := 47) hx hb dX9_goBack_47 (by decide) ?_
      refine lv_iload_n (pc := 49) hx hb dX9_goBack_49 rfl (lv_at hl 1 rfl) ?_
      refine lv_imul (pc := 50) hx hb dX9_goBack_50 ?_
      refine lv_bipush (v := (76 : Int32)) (pc := 51) hx hb dX9_goBack_51 (by decide) ?_
      refine lv_iadd (pc := 53) hx hb dX9_goBack_53 ?_
      obtain ⟨hg4, hF⟩ := ogd_e hF
      refine va_iald (pc := 54) hx hb hK hP 2 0 rfl rfl hg4 dX9_goBack_54 ?_
      refine va_put (pc := 55) (D := D) (ci := 9) (v := .int (img (Int32.toNatClampNeg (((77 : Int32) * p1) + (76 : Int32))))) (ty := .int) (C := RX9) (T := TX9) (N := 17) hx hb hts inX9 tyX9 tyX9_ok nmX9 hown hK hP hD hS 0 rfl rfl 5 (by decide) fl158 (fun _ h9 => h9) rfl (by decide +kernel) rfl rfl (Nat.le_of_ble_eq_true rfl) dX9_goBack_55 (fun H locs hP hD hS => ?_)
      have hP : va_P D vwCl (wX9_goBack cI cZ cM cS mo mst mpa mim mik mbi mbk mnr mia min mas mpr mfa mme mse deeds (img (Int32.toNatClampNeg (((77 : Int32) * p1) + (76 : Int32)))) ent st_1 img kept) H := hP
      have hD : va_D A (wX9_goBack cI cZ cM cS mo mst mpa mim mik mbi mbk mnr mia min mas mpr mfa mme mse deeds (img (Int32.toNatClampNeg (((77 : Int32) * p1) + (76 : Int32)))) ent st_1 img kept) := hD
      refine lv_aload_n (pc := 58) hx hb dX9_goBack_58 rfl (lv_at hl 0 rfl) ?_
      refine lv_iconst (v := (0 : Int32)) (pc := 59) hx hb dX9_goBack_59 (by decide) ?_
      refine va_put (pc := 60) (D := D) (ci := 9) (v := .int (0 : Int32)) (ty := .int) (C := RX9) (T := TX9) (N := 17) hx hb hts inX9 tyX9 tyX9_ok nmX9 hown hK hP hD hS 0 rfl rfl 2 (by decide) fl61 (fun _ h9 => h9) rfl (by decide +kernel) rfl rfl (Nat.le_of_ble_eq_true rfl) dX9_goBack_60 (fun H locs hP hD hS => ?_)
      have hP : va_P D vwCl (wX9_goBack cI cZ cM cS mo mst mpa mim mik mbi mbk mnr mia min mas mpr mfa mme mse (0 : Int32) (img (Int32.toNatClampNeg (((77 : Int32) * p1) + (76 : Int32)))) ent st_1 img kept) H := hP
      have hD : va_D A (wX9_goBack cI cZ cM cS mo mst mpa mim mik mbi mbk mnr mia min mas mpr mfa mme mse (0 : Int32) (img (Int32.toNatClampNeg (((77 : Int32) * p1) + (76 : Int32)))) ent st_1 img kept) := hD
      refine lv_iconst (v := (1 : Int32)) (pc := 63) hx hb dX9_goBack_63 (by decide) ?_
      cases hF
      exact hRet _ _ _ _ rfl dX9_goBack_64 hP hD hS
    · have hF := oif_t hF hc
      refine lv_ldc (v := (-1000000003 : Int32)) (pc := 21) hx hb hown cn187 dX9_goBack_21 ?_
      cases hF
      exact hRet _ _ _ _ rfl dX9_goBack_23 hP hD hS
  · have hF := oif_t hF hc
    refine lv_ldc (v := (-1000000001 : Int32)) (pc := 9) hx hb hown cn93 dX9_goBack_9 ?_
    cases hF
    exact hRet _ _ _ _ rfl dX9_goBack_11 hP hD hS
