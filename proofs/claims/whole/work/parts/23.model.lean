def fX9_apart_b21  (x3_2 : Int32) (met_2 : (Nat → Int32)) : Option ((Int32 × (Nat → Int32)) ⊕ ((Nat → Int32))) := (if (144 : Int32) ≤ x3_2 then (some (.inr met_2)) else (ogd x3_2 144 (some (.inl ((x3_2 + (1 : Int32)), (upd met_2 (Int32.toNatClampNeg x3_2) (0 : Int32)))))))
def fX9_apart_s21  (sg_ : Int32 × (Nat → Int32)) : Option ((Int32 × (Nat → Int32)) ⊕ ((Nat → Int32))) := fX9_apart_b21  sg_.1 sg_.2
def fX9_apart_b143 (st : (Nat → Int32)) (x5_2 : Int32) (x6_2 : Int32) (x4_2 : Int32) (x7_4 : Int32) (x3_9 : Int32) (prs_8 : (Nat → Int32)) (far_8 : (Nat → Int32)) (met_10 : (Nat → Int32)) : Option ((Int32 × Int32 × (Nat → Int32) × (Nat → Int32) × (Nat → Int32)) ⊕ (Int32 × (Nat → Int32) × (Nat → Int32) × (Nat → Int32))) := (if (st 1) ≤ x7_4 then (some (.inr (x3_9, prs_8, far_8, met_10))) else (ogd (((28 : Int32) + ((3 : Int32) * x5_2)) + x7_4) 76 (ogd (((28 : Int32) + ((3 : Int32) * x6_2)) + x7_4) 76 (onm (((12 : Int32) * (st (Int32.toNatClampNeg (((28 : Int32) + ((3 : Int32) * x5_2)) + x7_4)))) + (st (Int32.toNatClampNeg (((28 : Int32) + ((3 : Int32) * x6_2)) + x7_4)))) (fun x8_4 => (ogd x8_4 144 (if (met_10 (Int32.toNatClampNeg x8_4)) = (0 : Int32) then (ogd x8_4 144 (ogd x3_9 144 (ogd x4_2 144 (ogd x3_9 144 (some (.inl ((x7_4 + (1 : Int32)), (x3_9 + (1 : Int32)), (upd prs_8 (Int32.toNatClampNeg x3_9) x8_4), (upd far_8 (Int32.toNatClampNeg x3_9) ((far_8 (Int32.toNatClampNeg x4_2)) + (1 : Int32))), (upd met_10 (Int32.toNatClampNeg x8_4) (1 : Int32))))))))) else (some (.inl ((x7_4 + (1 : Int32)), x3_9, prs_8, far_8, met_10))))))))))
def fX9_apart_s143 (st : (Nat → Int32)) (x5_2 : Int32) (x6_2 : Int32) (x4_2 : Int32) (sg_ : Int32 × Int32 × (Nat → Int32) × (Nat → Int32) × (Nat → Int32)) : Option ((Int32 × Int32 × (Nat → Int32) × (Nat → Int32) × (Nat → Int32)) ⊕ (Int32 × (Nat → Int32) × (Nat → Int32) × (Nat → Int32))) := fX9_apart_b143 st x5_2 x6_2 x4_2 sg_.1 sg_.2.1 sg_.2.2.1 sg_.2.2.2.1 sg_.2.2.2.2
def fX9_apart_b77 (st : (Nat → Int32)) (x4_2 : Int32) (x3_7 : Int32) (prs_6 : (Nat → Int32)) (far_6 : (Nat → Int32)) (met_8 : (Nat → Int32)) : Option ((Int32 × Int32 × (Nat → Int32) × (Nat → Int32) × (Nat → Int32)) ⊕ (Int32 × (Nat → Int32) × (Nat → Int32) × (Nat → Int32))) := (if x3_7 ≤ x4_2 then (some (.inr ((-1 : Int32), prs_6, far_6, met_8))) else (ogd x4_2 144 (onm ((prs_6 (Int32.toNatClampNeg x4_2)) / (12 : Int32)) (fun x5_2 => (ogd x4_2 144 (onm ((prs_6 (Int32.toNatClampNeg x4_2)) - (prs_6 (Int32.toNatClampNeg x4_2)) / (12 : Int32) * (12 : Int32)) (fun x6_2 => (ob1 (fX9_has (st 2) x5_2) (fun r_5 => (ob1 (fX9_has (st 2) x6_2) (fun r_6 => (if r_5 = r_6 then (ob4 (olp (fX9_apart_s143 st x5_2 x6_2 x4_2) oFu ((0 : Int32), x3_7, prs_6, far_6, met_8)) (fun x3_10 prs_9 far_9 met_11 => (some (.inl ((x4_2 + (1 : Int32)), x3_10, prs_9, far_9, met_11))))) else (ogd x4_2 144 (some (.inr ((far_6 (Int32.toNatClampNeg x4_2)), prs_6, far_6, met_8))))))))))))))))
def fX9_apart_s77 (st : (Nat → Int32)) (sg_ : Int32 × Int32 × (Nat → Int32) × (Nat → Int32) × (Nat → Int32)) : Option ((Int32 × Int32 × (Nat → Int32) × (Nat → Int32) × (Nat → Int32)) ⊕ (Int32 × (Nat → Int32) × (Nat → Int32) × (Nat → Int32))) := fX9_apart_b77 st sg_.1 sg_.2.1 sg_.2.2.1 sg_.2.2.2.1 sg_.2.2.2.2
def fX9_apart (p1 : Int32) (p2 : Int32) (deeds : Int32) (sd : Int32) (ent : Int32) (st : (Nat → Int32)) (prs : (Nat → Int32)) (far : (Nat → Int32)) (met : (Nat → Int32)) : Option (Int32 × (Nat → Int32) × (Nat → Int32) × (Nat → Int32)) := (ob1 (fX9_isItem p1 deeds sd ent st) (fun r_1 => (if r_1 = (0 : Int32) then (some ((-1000000001 : Int32), prs, far, met)) else (ob1 (fX9_isItem p2 deeds sd ent st) (fun r_2 => (if r_2 = (0 : Int32) then (some ((-1000000001 : Int32), prs, far, met)) else (ob1 (olp (fX9_apart_s21) oFu ((0 : Int32), met)) (fun met_3 => (ogd ((upd prs 0 (((12 : Int32) * p1) + p2)) 0) 144 (olp (fX9_apart_s77 st) oFu ((0 : Int32), (1 : Int32), (upd prs 0 (((12 : Int32) * p1) + p2)), (upd far 0 (0 : Int32)), (upd met_3 (Int32.toNatClampNeg ((upd prs 0 (((12 : Int32) * p1) + p2)) 0)) (1 : Int32)))))))))))))
abbrev wX9_apart (cI cZ cM cS : ClassId) (mo mst mpa mim mik mbi mbk mnr mia min mas mpr mfa mme mse : Nat) (deeds : Int32) (sd : Int32) (ent : Int32) (st : (Nat → Int32)) (prs : (Nat → Int32)) (far : (Nat → Int32)) (met : (Nat → Int32)) : va_W := [(mo, .inr (9, [.ref mst, .ref mpa, .int deeds, .ref mim, .ref mik, .int sd, .ref mbi, .ref mbk, .int ent, .ref mnr, .ref mia, .ref min, .ref mas, .ref mpr, .ref mfa, .ref mme, .ref mse])), (mst, .inl (cI, 76, .inl st)), (mpr, .inl (cI, 144, .inl prs)), (mfa, .inl (cI, 144, .inl far)), (mme, .inl (cZ, 144, .inl met))]
set_option maxHeartbeats 4000000 in
set_option maxRecDepth 100000 in
theorem tX9_apart (l : Launch) (D : va_G) (cI cZ cM cS : ClassId) (mo mst mpa mim mik mbi mbk mnr mia min mas mpr mfa mme mse : Nat) (deeds : Int32) (sd : Int32) (ent : Int32) (st : (Nat → Int32)) (prs : (Nat → Int32)) (far : (Nat → Int32)) (met : (Nat → Int32)) (p1 : Int32) (p2 : Int32) {r : Int32} {prs' : (Nat → Int32)} {far' : (Nat → Int32)} {met' : (Nat → Int32)} (hF : fX9_apart p1 p2 deeds sd ent st prs far met = some (r, prs', far', met')) : zCW l yX9_apart wsX9_apart (zRm 2 43) D (zTy cI cZ cM cS) [.ref mo, .int p1, .int p2] (wX9_apart cI cZ cM cS mo mst mpa mim mik mbi mbk mnr mia min mas mpr mfa mme mse deeds sd ent st prs far met) (wX9_apart cI cZ cM cS mo mst mpa mim mik mbi mbk mnr mia min mas mpr mfa mme mse deeds sd ent st prs' far' met') (some (.int r)) := by
  unfold fX9_apart at hF
  refine zCW_ofi (cc := cX9_apart) (maxL := 9) (own := RX9) (by decide) rfl rfl (Nat.le_of_ble_eq_true rfl) (fun p e s m args below meth c Q ls A E hA hK hP hD hRet hS hl => ?_)
  refine zgen (fun H locs hP hS => ?_) hP hS
  have hl : lv_has ls 9 [(0, .ref mo), (1, .int p1), (2, .int p2)] := hl
  obtain ⟨hx, hb, hml, hown, hts⟩ := id E
  have inX9 : ∀ w ∈ u_ws RX9 TX9 17, w ∈ wsX9_apart := by decide +kernel
  have fl41 := hts (.fieldLink RX9 41 "SplitClassesModel" "pairs" "[I") (by decide +kernel)
  have fl44 := hts (.fieldLink RX9 44 "SplitClassesModel" "far" "[I") (by decide +kernel)
  have fl47 := hts (.fieldLink RX9 47 "SplitClassesModel" "isMet" "[Z") (by decide +kernel)
  have fl7 := hts (.fieldLink RX9 7 "SplitClassesModel" "st" "[I") (by decide +kernel)
  have cn93 := hts (.constant RX9 93 (-1000000001)) (by decide +kernel)
  refine lv_aload_n (pc := 0) hx hb dX9_apart_0 rfl (lv_at hl 0 rfl) ?_
  refine lv_iload_n (pc := 1) hx hb dX9_apart_1 rfl (lv_at hl 1 rfl) ?_
  obtain ⟨r_1, hC1, hF⟩ := ob1_e hF
  refine zVr (pc := 2) (As := [.int p1]) (rest := []) E (tX9_isItem l D cI cZ cM cS mo mst mpa mim mik mbi mbk mnr mia min mas mpr mfa mme mse deeds sd ent st p1 hC1) 1 gX9_apart_X9_isItem rfl rfl rfl (by decide +kernel) ⟨Nat.le_of_ble_eq_true rfl, Nat.le_of_ble_eq_true rfl⟩ hK hP [0, 1] rfl 0 9 rfl rfl rfl rfl hl.1 rfl (Nat.le_of_ble_eq_true rfl) dX9_apart_2 ⟨Nat.zero_le _, Nat.zero_le _⟩ ?_
  refine lv_if_eq (pc := 5) (tgt := 16) hx hb dX9_apart_5 (by decide) (fun hc => ?_) (fun hc => ?_)
  · have hF := oif_t hF hc
    refine lv_ldc (v := (-1000000001 : Int32)) (pc := 16) hx hb hown cn93 dX9_apart_16 ?_
    cases hF
    exact hRet _ _ _ _ rfl dX9_apart_18 hP hD hS
  · have hF := oif_f hF hc
    refine lv_aload_n (pc := 8) hx hb dX9_apart_8 rfl (lv_at hl 0 rfl) ?_
    refine lv_iload_n (pc := 9) hx hb dX9_apart_9 rfl (lv_at hl 2 rfl) ?_
    obtain ⟨r_2, hC2, hF⟩ := ob1_e hF
    refine zVr (pc := 10) (As := [.int p2]) (rest := []) E (tX9_isItem l D cI cZ cM cS mo mst mpa mim mik mbi mbk mnr mia min mas mpr mfa mme mse deeds sd ent st p2 hC2) 1 gX9_apart_X9_isItem rfl rfl rfl (by decide +kernel) ⟨Nat.le_of_ble_eq_true rfl, Nat.le_of_ble_eq_true rfl⟩ hK hP [0, 1] rfl 0 9 rfl rfl rfl rfl hl.1 rfl (Nat.le_of_ble_eq_true rfl) dX9_apart_10 ⟨Nat.zero_le _, Nat.zero_le _⟩ ?_
    refine lv_if_ne (pc := 13) (tgt := 19) hx hb dX9_apart_13 (by decide) (fun hc => ?_) (fun hc => ?_)
    · have hF := oif_f hF hc
      refine lv_iconst (v := (0 : Int32)) (pc := 19) hx hb dX9_apart_19 (by decide) ?_
      refine lv_istore_n (lv' := [(3, .int (0 : Int32)), (0, .ref mo), (1, .int p1), (2, .int p2)]) (pc := 20) hx hb dX9_apart_20 rfl hl (by decide) rfl (fun ls hl => ?_)
      obtain ⟨met_3, hL4, hF⟩ := ob1_e hF
      have ex4 : ∀ (H : Heap) (locs : List Loc) (ls : Array Slot), va_P D vwCl (wX9_apart cI cZ cM cS mo mst mpa mim mik mbi mbk mnr mia min mas mpr mfa mme mse deeds sd ent st prs far met_3) H → va_D A (wX9_apart cI cZ cM cS mo mst mpa mim mik mbi mbk mnr mia min mas mpr mfa mme mse deeds sd ent st prs far met_3) → va_S A s.heap H locs → lv_has ls 9 [(0, .ref mo), (1, .int p1), (2, .int p2)] → W p l e (zRm 2 43) s m args below meth c H locs 0 0 Q (F0 m 41 ls []) := by
        intro H locs ls hP hD hS hl
        refine lv_iconst (v := (1 : Int32)) (pc := 41) hx hb dX9_apart_41 (by decide) ?_
        refine lv_istore_n (lv' := [(3, .int (1 : Int32)), (0, .ref mo), (1, .int p1), (2, .int p2)]) (pc := 42) hx hb dX9_apart_42 rfl hl (by decide) rfl (fun ls hl => ?_)
        refine lv_aload_n (pc := 43) hx hb dX9_apart_43 rfl (lv_at hl 1 rfl) ?_
        refine va_get (pc := 44) (ci := 9) (C := RX9) (T := TX9) (N := 17) hx hb hts inX9 hown hK hP 0 rfl rfl 13 (by decide) fl41 (fun _ h9 => h9) rfl dX9_apart_44 ?_
        refine lv_iconst (v := (0 : Int32)) (pc := 47) hx hb dX9_apart_47 (by decide) ?_
        refine lv_bipush (v := (12 : Int32)) (pc := 48) hx hb dX9_apart_48 (by decide) ?_
        refine lv_iload_n (pc := 50) hx hb dX9_apart_50 rfl (lv_at hl 2 rfl) ?_
        refine lv_imul (pc := 51) hx hb dX9_apart_51 ?_
        refine lv_iload_n (pc := 52) hx hb dX9_apart_52 rfl (lv_at hl 3 rfl) ?_
        refine lv_iadd (pc := 53) hx hb dX9_apart_53 ?_
        refine z_iast (pc := 54) (k := 0) hx hb hK hP hD hS 2 0 rfl rfl (by decide) (by decide) dX9_apart_54 (fun H locs hP hD hS => ?_)
        have hP : va_P D vwCl (wX9_apart cI cZ cM cS mo mst mpa mim mik mbi mbk mnr mia min mas mpr mfa mme mse deeds sd ent st (upd prs 0 (((12 : Int32) * p1) + p2)) far met_3) H := hP
        have hD : va_D A (wX9_apart cI cZ cM cS mo mst mpa mim mik mbi mbk mnr mia min mas mpr mfa mme mse deeds sd ent st (upd prs 0 (((12 : Int32) * p1) + p2)) far met_3) := hD
        refine lv_aload_n (pc := 55) hx hb dX9_apart_55 rfl (lv_at hl 1 rfl) ?_
        refine va_get (pc := 56) (ci := 9) (C := RX9) (T := TX9) (N := 17) hx hb hts inX9 hown hK hP 0 rfl rfl 14 (by decide) fl44 (fun _ h9 => h9) rfl dX9_apart_56 ?_
        refine lv_iconst (v := (0 : Int32)) (pc := 59) hx hb dX9_apart_59 (by decide) ?_
        refine lv_iconst (v := (0 : Int32)) (pc := 60) hx hb dX9_apart_60 (by decide) ?_
        refine z_iast (pc := 61) (k := 0) hx hb hK hP hD hS 3 0 rfl rfl (by decide) (by decide) dX9_apart_61 (fun H locs hP hD hS => ?_)
        have hP : va_P D vwCl (wX9_apart cI cZ cM cS mo mst mpa mim mik mbi mbk mnr mia min mas mpr mfa mme mse deeds sd ent st (upd prs 0 (((12 : Int32) * p1) + p2)) (upd far 0 (0 : Int32)) met_3) H := hP
        have hD : va_D A (wX9_apart cI cZ cM cS mo mst mpa mim mik mbi mbk mnr mia min mas mpr mfa mme mse deeds sd ent st (upd prs 0 (((12 : Int32) * p1) + p2)) (upd far 0 (0 : Int32)) met_3) := hD
        refine lv_aload_n (pc := 62) hx hb dX9_apart_62 rfl (lv_at hl 1 rfl) ?_
        refine va_get (pc := 63) (ci := 9) (C := RX9) (T := TX9) (N := 17) hx hb hts inX9 hown hK hP 0 rfl rfl 15 (by decide) fl47 (fun _ h9 => h9) rfl dX9_apart_63 ?_
        refine lv_aload_n (pc := 66) hx hb dX9_apart_66 rfl (lv_at hl 1 rfl) ?_
        refine va_get (pc := 67) (ci := 9) (C := RX9) (T := TX9) (N := 17) hx hb hts inX9 hown hK hP 0 rfl rfl 13 (by decide) fl41 (fun _ h9 => h9) rfl dX9_apart_67 ?_
        refine lv_iconst (v := (0 : Int32)) (pc := 70) hx hb dX9_apart_70 (by decide) ?_
        refine z_iald (pc := 71) (k := 0) hx hb hK hP 2 0 rfl rfl (by decide) (by decide) dX9_apart_71 ?_
        refine lv_iconst (v := (1 : Int32)) (pc := 72) hx hb dX9_apart_72 (by decide) ?_
        obtain ⟨hg6, hF⟩ := ogd_e hF
        refine va_zast (pc := 73) hx hb hK hP hD hS 4 1 rfl rfl hg6 dX9_apart_73 (fun H locs hP hD hS => ?_)
        have hP : va_P D vwCl (wX9_apart cI cZ cM cS mo mst mpa mim mik mbi mbk mnr mia min mas mpr mfa mme mse deeds sd ent st (upd prs 0 (((12 : Int32) * p1) + p2)) (upd far 0 (0 : Int32)) (upd met_3 (Int32.toNatClampNeg ((upd prs 0 (((12 : Int32) * p1) + p2)) 0)) (1 : Int32))) H := hP
        have hD : va_D A (wX9_apart cI cZ cM cS mo mst mpa mim mik mbi mbk mnr mia min mas mpr mfa mme mse deeds sd ent st (upd prs 0 (((12 : Int32) * p1) + p2)) (upd far 0 (0 : Int32)) (upd met_3 (Int32.toNatClampNeg ((upd prs 0 (((12 : Int32) * p1) + p2)) 0)) (1 : Int32))) := hD
        refine lv_iconst (v := (0 : Int32)) (pc := 74) hx hb dX9_apart_74 (by decide) ?_
        refine lv_istore (lv' := [(4, .int (0 : Int32)), (3, .int (1 : Int32)), (0, .ref mo), (1, .int p1), (2, .int p2)]) (pc := 75) hx hb dX9_apart_75 hl (by decide) rfl (fun ls hl => ?_)
        have hL27 := hF
        have lp27 : ∀ (n : Nat) (x4_2 : Int32) (x3_7 : Int32) (prs_6 : (Nat → Int32)) (far_6 : (Nat → Int32)) (met_8 : (Nat → Int32)) (H : Heap) (locs : List Loc) (ls : Array Slot), olp (fX9_apart_s77 st) n (x4_2, x3_7, prs_6, far_6, met_8) = some (r, prs', far', met') → va_P D vwCl (wX9_apart cI cZ cM cS mo mst mpa mim mik mbi mbk mnr mia min mas mpr mfa mme mse deeds sd ent st prs_6 far_6 met_8) H → va_D A (wX9_apart cI cZ cM cS mo mst mpa mim mik mbi mbk mnr mia min mas mpr mfa mme mse deeds sd ent st prs_6 far_6 met_8) → va_S A s.heap H locs → lv_has ls 9 [(4, .int x4_2), (3, .int x3_7), (0, .ref mo)] → W p l e (zRm 2 43) s m args below meth c H locs 0 0 Q (F0 m 77 ls []) := by
          intro n
          induction n with
          | zero => intro x4_2 x3_7 prs_6 far_6 met_8 H locs ls hL; exact olp_0 hL
          | succ n ih =>
            intro x4_2 x3_7 prs_6 far_6 met_8 H locs ls hL27 hP hD hS hl
            obtain ⟨z, hz27, hL27⟩ := olp_e hL27
            have hz27 : fX9_apart_b77 st x4_2 x3_7 prs_6 far_6 met_8 = some z := hz27
            unfold fX9_apart_b77 at hz27
            refine lv_iload (pc := 77) hx hb dX9_apart_77 (lv_at hl 0 rfl) ?_
            refine lv_iload_n (pc := 79) hx hb dX9_apart_79 rfl (lv_at hl 1 rfl) ?_
            refine lv_icmp_ge (pc := 80) (tgt := 246) hx hb dX9_apart_80 (by decide) (fun hc => ?_) (fun hc => ?_)
            · have hz27 := oif_t hz27 hc
              refine lv_iconst (v := (-1 : Int32)) (pc := 246) hx hb dX9_apart_246 (by decide) ?_
              have hE := olp_r hz27 hL27
              cases hE
              exact hRet _ _ _ _ rfl dX9_apart_247 hP hD hS
            · have hz27 := oif_f hz27 hc
              refine lv_aload_n (pc := 83) hx hb dX9_apart_83 rfl (lv_at hl 2 rfl) ?_
              refine va_get (pc := 84) (ci := 9) (C := RX9) (T := TX9) (N := 17) hx hb hts inX9 hown hK hP 0 rfl rfl 13 (by decide) fl41 (fun _ h9 => h9) rfl dX9_apart_84 ?_
              refine lv_iload (pc := 87) hx hb dX9_apart_87 (lv_at hl 0 rfl) ?_
              obtain ⟨hg28, hz27⟩ := ogd_e hz27
              refine va_iald (pc := 89) hx hb hK hP 2 0 rfl rfl hg28 dX9_apart_89 ?_
              refine lv_bipush (v := (12 : Int32)) (pc := 90) hx hb dX9_apart_90 (by decide) ?_
              refine lv_idiv (pc := 92) hx hb dX9_apart_92 (by decide) ?_
              refine lv_topi (fun x5_2 ex5_2 => ?_)
              have hz27 := onm_e hz27 x5_2 ex5_2
              refine lv_istore (lv' := [(5, .int x5_2), (4, .int x4_2), (3, .int x3_7), (0, .ref mo)]) (pc := 93) hx hb dX9_apart_93 hl (by decide) rfl (fun ls hl => ?_)
              refine lv_aload_n (pc := 95) hx hb dX9_apart_95 rfl (lv_at hl 3 rfl) ?_
              refine va_get (pc := 96) (ci := 9) (C := RX9) (T := TX9) (N := 17) hx hb hts inX9 hown hK hP 0 rfl rfl 13 (by decide) fl41 (fun _ h9 => h9) rfl dX9_apart_96 ?_
              refine lv_iload (pc := 99) hx hb dX9_apart_99 (lv_at hl 1 rfl) ?_
              obtain ⟨hg29, hz27⟩ := ogd_e hz27
              refine va_iald (pc := 101) hx hb hK hP 2 0 rfl rfl hg29 dX9_apart_101 ?_
              refine lv_bipush (v := (12 : Int32)) (pc := 102) hx hb dX9_apart_102 (by decide) ?_
              refine lv_irem (pc := 104) hx hb dX9_apart_104 (by decide) ?_
              refine lv_topi (fun x6_2 ex6_2 => ?_)
              have hz27 := onm_e hz27 x6_2 ex6_2
              refine lv_istore (lv' := [(6, .int x6_2), (5, .int x5_2), (4, .int x4_2), (3, .int x3_7), (0, .ref mo)]) (pc := 105) hx hb dX9_apart_105 hl (by decide) rfl (fun ls hl => ?_)
              refine lv_aload_n (pc := 107) hx hb dX9_apart_107 rfl (lv_at hl 4 rfl) ?_
              refine va_get (pc := 108) (ci := 9) (C := RX9) (T := TX9) (N := 17) hx hb hts inX9 hown hK hP 0 rfl rfl 0 (by decide) fl7 (fun _ h9 => h9) rfl dX9_apart_108 ?_
              refine lv_iconst (v := (2 : Int32)) (pc := 111) hx hb dX9_apart_111 (by decide) ?_
              refine z_iald (pc := 112) (k := 2) hx hb hK hP 1 0 rfl rfl (by decide) (by decide) dX9_apart_112 ?_
              refine lv_iload (pc := 113) hx hb dX9_apart_113 (lv_at hl 1 rfl) ?_
              obtain ⟨r_5, hC30, hz27⟩ := ob1_e hz27
              refine zSr (pc := 115) (As := [.int (st 2), .int x5_2]) (rest := []) E (tX9_has l D cI cZ cM cS (st 2) x5_2 hC30) 2 gX9_apart_X9_has rfl rfl rfl (by decide +kernel) ⟨Nat.le_of_ble_eq_true rfl, Nat.le_of_ble_eq_true rfl⟩ hK hP [] rfl rfl hl.1 rfl (Nat.le_of_ble_eq_true rfl) dX9_apart_115 ⟨Nat.zero_le _, Nat.zero_le _⟩ ?_
              refine lv_aload_n (pc := 118) hx hb dX9_apart_118 rfl (lv_at hl 4 rfl) ?_
              refine va_get (pc := 119) (ci := 9) (C := RX9) (T := TX9) (N := 17) hx hb hts inX9 hown hK hP 0 rfl rfl 0 (by decide) fl7 (fun _ h9 => h9) rfl dX9_apart_119 ?_
              refine lv_iconst (v := (2 : Int32)) (pc := 122) hx hb dX9_apart_122 (by decide) ?_
              refine z_iald (pc := 123) (k := 2) hx hb hK hP 1 0 rfl rfl (by decide) (by decide) dX9_apart_123 ?_
              refine lv_iload (pc := 124) hx hb dX9_apart_124 (lv_at hl 0 rfl) ?_
              obtain ⟨r_6, hC31, hz27⟩ := ob1_e hz27
              refine zSr (pc := 126) (As := [.int (st 2), .int x6_2]) (rest := [.int r_5]) E (tX9_has l D cI cZ cM cS (st 2) x6_2 hC31) 2 gX9_apart_X9_has rfl rfl rfl (by decide +kernel) ⟨Nat.le_of_ble_eq_true rfl, Nat.le_of_ble_eq_true rfl⟩ hK hP [] rfl rfl hl.1 rfl (Nat.le_of_ble_eq_true rfl) dX9_apart_126 ⟨Nat.zero_le _, Nat.zero_le _⟩ ?_
              refine lv_icmp_eq (pc := 129) (tgt := 140) hx hb dX9_apart_129 (by decide) (fun hc => ?_) (fun hc => ?_)
              · have hz27 := oif_t hz27 hc
                refine lv_iconst (v := (0 : Int32)) (pc := 140) hx hb dX9_apart_140 (by decide) ?_
                refine lv_istore (lv' := [(7, .int (0 : Int32)), (6, .int x6_2), (5, .int x5_2), (4, .int x4_2), (3, .int x3_7), (0, .ref mo)]) (pc := 141) hx hb dX9_apart_141 hl (by decide) rfl (fun ls hl => ?_)
                obtain ⟨x3_10, prs_9, far_9, met_11, hL39, hz27⟩ := ob4_e hz27
                have ex39 : ∀ (H : Heap) (locs : List Loc) (ls : Array Slot), va_P D vwCl (wX9_apart cI cZ cM cS mo mst mpa mim mik mbi mbk mnr mia min mas mpr mfa mme mse deeds sd ent st prs_9 far_9 met_11) H → va_D A (wX9_apart cI cZ cM cS mo mst mpa mim mik mbi mbk mnr mia min mas mpr mfa mme mse deeds sd ent st prs_9 far_9 met_11) → va_S A s.heap H locs → lv_has ls 9 [(4, .int x4_2), (3, .int x3_10), (0, .ref mo)] → W p l e (zRm 2 43) s m args below meth c H locs 0 0 Q (F0 m 240 ls []) := by
                  intro H locs ls hP hD hS hl
                  refine lv_iinc (v := (x4_2 + (1 : Int32))) (lv' := [(4, .int (x4_2 + (1 : Int32))), (3, .int x3_10), (0, .ref mo)]) (pc := 240) hx hb dX9_apart_240 hl (k := 0) rfl rfl (by decide) rfl (fun ls hl => ?_)
                  refine lv_goto (pc := 243) (tgt := 77) hx hb dX9_apart_243 (by decide) ?_
                  exact ih _ _ _ _ _ _ _ _ (olp_l hz27 hL27) hP hD hS (lv_sub hl [0, 1, 2] rfl)
                have lp39 : ∀ (n : Nat) (x7_4 : Int32) (x3_9 : Int32) (prs_8 : (Nat → Int32)) (far_8 : (Nat → Int32)) (met_10 : (Nat → Int32)) (H : Heap) (locs : List Loc) (ls : Array Slot), olp (fX9_apart_s143 st x5_2 x6_2 x4_2) n (x7_4, x3_9, prs_8, far_8, met_10) = some (x3_10, prs_9, far_9, met_11) → va_P D vwCl (wX9_apart cI cZ cM cS mo mst mpa mim mik mbi mbk mnr mia min mas mpr mfa mme mse deeds sd ent st prs_8 far_8 met_10) H → va_D A (wX9_apart cI cZ cM cS mo mst mpa mim mik mbi mbk mnr mia min mas mpr mfa mme mse deeds sd ent st prs_8 far_8 met_10) → va_S A s.heap H locs → lv_has ls 9 [(7, .int x7_4), (6, .int x6_2), (5, .int x5_2), (4, .int x4_2), (3, .int x3_9), (0, .ref mo)] → W p l e (zRm 2 43) s m args below meth c H locs 0 0 Q (F0 m 143 ls []) := by
                  intro n
                  induction n with
                  | zero => intro x7_4 x3_9 prs_8 far_8 met_10 H locs ls hL; exact olp_0 hL
                  | succ n ih =>
                    intro x7_4 x3_9 prs_8 far_8 met_10 H locs ls hL39 hP hD hS hl
                    obtain ⟨z, hz39, hL39⟩ := olp_e hL39
                    have hz39 : fX9_apart_b143 st x5_2 x6_2 x4_2 x7_4 x3_9 prs_8 far_8 met_10 = some z := hz39
                    unfold fX9_apart_b143 at hz39
                    refine lv_iload (pc := 143) hx hb dX9_apart_143 (lv_at hl 0 rfl) ?_
                    refine lv_aload_n (pc := 145) hx hb dX9_apart_145 rfl (lv_at hl 5 rfl) ?_
                    refine va_get (pc := 146) (ci := 9) (C := RX9) (T := TX9) (N := 17) hx hb hts inX9 hown hK hP 0 rfl rfl 0 (by decide) fl7 (fun _ h9 => h9) rfl dX9_apart_146 ?_
                    refine lv_iconst (v := (1 : Int32)) (pc := 149) hx hb dX9_apart_149 (by decide) ?_
                    refine z_iald (pc := 150) (k := 1) hx hb hK hP 1 0 rfl rfl (by decide) (by decide) dX9_apart_150 ?_
                    refine lv_icmp_ge (pc := 151) (tgt := 240) hx hb dX9_apart_151 (by decide) (fun hc => ?_) (fun hc => ?_)
                    · have hz39 := oif_t hz39 hc
                      have hE := olp_r hz39 hL39
                      cases hE
                      exact ex39 _ _ _ hP hD hS (lv_sub hl [3, 4, 5] rfl)
                    · have hz39 := oif_f hz39 hc
                      refine lv_bipush (v := (12 : Int32)) (pc := 154) hx hb dX9_apart_154 (by decide) ?_
                      refine lv_aload_n (pc := 156) hx hb dX9_apart_156 rfl (lv_at hl 5 rfl) ?_
                      refine va_get (pc := 157) (ci := 9) (C := RX9) (T := TX9) (N := 17) hx hb hts inX9 hown hK hP 0 rfl rfl 0 (by decide) fl7 (fun _ h9 => h9) rfl dX9_apart_157 ?_
                      refine lv_bipush (v := (28 : Int32)) (pc := 160) hx hb dX9_apart_160 (by decide) ?_
                      refine lv_iconst (v := (3 : Int32)) (pc := 162) hx hb dX9_apart_162 (by decide) ?_
                      refine lv_iload (pc := 163) hx hb dX9_apart_163 (lv_at hl 2 rfl) ?_
                      refine lv_imul (pc := 165) hx hb dX9_apart_165 ?_
                      refine lv_iadd (pc := 166) hx hb dX9_apart_166 ?_
                      refine lv_iload (pc := 167) hx hb dX9_apart_167 (lv_at hl 0 rfl) ?_
                      refine lv_iadd (pc := 169) hx hb dX9_apart_169 ?_
                      obtain ⟨hg40, hz39⟩ := ogd_e hz39
                      refine va_iald (pc := 170) hx hb hK hP 1 0 rfl rfl hg40 dX9_apart_170 ?_
                      refine lv_imul (pc := 171) hx hb dX9_apart_171 ?_
                      refine lv_aload_n (pc := 172) hx hb dX9_apart_172 rfl (lv_at hl 5 rfl) ?_
                      refine va_get (pc := 173) (ci := 9) (C := RX9) (T := TX9) (N := 17) hx hb hts inX9 hown hK hP 0 rfl rfl 0 (by decide) fl7 (fun _ h9 => h9) rfl dX9_apart_173 ?_
                      refine lv_bipush (v := (28 : Int32)) (pc := 176) hx hb dX9_apart_176 (by decide) ?_
                      refine lv_iconst (v := (3 : Int32)) (pc := 178) hx hb dX9_apart_178 (by decide) ?_
                      refine lv_iload (pc := 179) hx hb dX9_apart_179 (lv_at hl 1 rfl) ?_
                      refine lv_imul (pc := 181) hx hb dX9_apart_181 ?_
                      refine lv_iadd (pc := 182) hx hb dX9_apart_182 ?_
                      refine lv_iload (pc := 183) hx hb dX9_apart_183 (lv_at hl 0 rfl) ?_
                      refine lv_iadd (pc := 185) hx hb dX9_apart_185 ?_
                      obtain ⟨hg41, hz39⟩ := ogd_e hz39
                      refine va_iald (pc := 186) hx hb hK hP 1 0 rfl rfl hg41 dX9_apart_186 ?_
                      refine lv_iadd (pc := 187) hx hb dX9_apart_187 ?_
                      refine lv_topi (fun x8_4 ex8_4 => ?_)
                      have hz39 := onm_e hz39 x8_4 ex8_4
                      refine lv_istore (lv' := [(8, .int x8_4), (7, .int x7_4), (6, .int x6_2), (5, .int x5_2), (4, .int x4_2), (3, .int x3_9), (0, .ref mo)]) (pc := 188) hx hb dX9_apart_188 hl (by decide) rfl (fun ls hl => ?_)
                      refine lv_aload_n (pc := 190) hx hb dX9_apart_190 rfl (lv_at hl 6 rfl) ?_
                      refine va_get (pc := 191) (ci := 9) (C := RX9) (T := TX9) (N := 17) hx hb hts inX9 hown hK hP 0 rfl rfl 15 (by decide) fl47 (fun _ h9 => h9) rfl dX9_apart_191 ?_
                      refine lv_iload (pc := 194) hx hb dX9_apart_194 (lv_at hl 0 rfl) ?_
                      obtain ⟨hg42, hz39⟩ := ogd_e hz39
                      refine va_zald (pc := 196) hx hb hK hP 4 1 rfl rfl hg42 dX9_apart_196 ?_
                      refine lv_if_ne (pc := 197) (tgt := 234) hx hb dX9_apart_197 (by decide) (fun hc => ?_) (fun hc => ?_)
                      · have hz39 := oif_f hz39 hc
                        refine lv_iinc (v := (x7_4 + (1 : Int32))) (lv' := [(7, .int (x7_4 + (1 : Int32))), (8, .int x8_4), (6, .int x6_2), (5, .int x5_2), (4, .int x4_2), (3, .int x3_9), (0, .ref mo)]) (pc := 234) hx hb dX9_apart_234 hl (k := 1) rfl rfl (by decide) rfl (fun ls hl => ?_)
                        refine lv_goto (pc := 237) (tgt := 143) hx hb dX9_apart_237 (by decide) ?_
                        exact ih _ _ _ _ _ _ _ _ (olp_l hz39 hL39) hP hD hS (lv_sub hl [0, 2, 3, 4, 5, 6] rfl)
                      · have hz39 := oif_t hz39 hc
                        refine lv_aload_n (pc := 200) hx hb dX9_apart_200 rfl (lv_at hl 6 rfl) ?_
                        refine va_get (pc := 201) (ci := 9) (C := RX9) (T := TX9) (N := 17) hx hb hts inX9 hown hK hP 0 rfl rfl 15 (by decide) fl47 (fun _ h9 => h9) rfl dX9_apart_201 ?_
                        refine lv_iload (pc := 204) hx hb dX9_apart_204 (lv_at hl 0 rfl) ?_
                        refine lv_iconst (v := (1 : Int32)) (pc := 206) hx hb dX9_apart_206 (by decide) ?_
                        obtain ⟨hg43, hz39⟩ := ogd_e hz39
                        refine va_zast (pc := 207) hx hb hK hP hD hS 4 1 rfl rfl hg43 dX9_apart_207 (fun H locs hP hD hS => ?_)
                        have hP : va_P D vwCl (wX9_apart cI cZ cM cS mo mst mpa mim mik mbi mbk mnr mia min mas mpr mfa mme mse deeds sd ent st prs_8 far_8 (upd met_10 (Int32.toNatClampNeg x8_4) (1 : Int32))) H := hP
                        have hD : va_D A (wX9_apart cI cZ cM cS mo mst mpa mim mik mbi mbk mnr mia min mas mpr mfa mme mse deeds sd ent st prs_8 far_8 (upd met_10 (Int32.toNatClampNeg x8_4) (1 : Int32))) := hD
                        refine lv_aload_n (pc := 208) hx hb dX9_apart_208 rfl (lv_at hl 6 rfl) ?_
                        refine va_get (pc := 209) (ci := 9) (C := RX9) (T := TX9) (N := 17) hx hb hts inX9 hown hK hP 0 rfl rfl 13 (by decide) fl41 (fun _ h9 => h9) rfl dX9_apart_209 ?_
                        refine lv_iload_n (pc := 212) hx hb dX9_apart_212 rfl (lv_at hl 5 rfl) ?_
                        refine lv_iload (pc := 213) hx hb dX9_apart_213 (lv_at hl 0 rfl) ?_
                        obtain ⟨hg44, hz39⟩ := ogd_e hz39
                        refine va_iast (pc := 215) hx hb hK hP hD hS 2 0 rfl rfl hg44 dX9_apart_215 (fun H locs hP hD hS => ?_)
                        have hP : va_P D vwCl (wX9_apart cI cZ cM cS mo mst mpa mim mik mbi mbk mnr mia min mas mpr mfa mme mse deeds sd ent st (upd prs_8 (Int32.toNatClampNeg x3_9) x8_4) far_8 (upd met_10 (Int32.toNatClampNeg x8_4) (1 : Int32))) H := hP
                        have hD : va_D A (wX9_apart cI cZ cM cS mo mst mpa mim mik mbi mbk mnr mia min mas mpr mfa mme mse deeds sd ent st (upd prs_8 (Int32.toNatClampNeg x3_9) x8_4) far_8 (upd met_10 (Int32.toNatClampNeg x8_4) (1 : Int32))) := hD
                        refine lv_aload_n (pc := 216) hx hb dX9_apart_216 rfl (lv_at hl 6 rfl) ?_
                        refine va_get (pc := 217) (ci := 9) (C := RX9) (T := TX9) (N := 17) hx hb hts inX9 hown hK hP 0 rfl rfl 14 (by decide) fl44 (fun _ h9 => h9) rfl dX9_apart_217 ?_
                        refine lv_iload_n (pc := 220) hx hb dX9_apart_220 rfl (lv_at hl 5 rfl) ?_
                        refine lv_aload_n (pc := 221) hx hb dX9_apart_221 rfl (lv_at hl 6 rfl) ?_
                        refine va_get (pc := 222) (ci := 9) (C := RX9) (T := TX9) (N := 17) hx hb hts inX9 hown hK hP 0 rfl rfl 14 (by decide) fl44 (fun _ h9 => h9) rfl dX9_apart_222 ?_
                        refine lv_iload (pc := 225) hx hb dX9_apart_225 (lv_at hl 4 rfl) ?_
                        obtain ⟨hg45, hz39⟩ := ogd_e hz39
                        refine va_iald (pc := 227) hx hb hK hP 3 0 rfl rfl hg45 dX9_apart_227 ?_
                        refine lv_iconst (v := (1 : Int32)) (pc := 228) hx hb dX9_apart_228 (by decide) ?_
                        refine lv_iadd (pc := 229) hx hb dX9_apart_229 ?_
                        obtain ⟨hg46, hz39⟩ := ogd_e hz39
                        refine va_iast (pc := 230) hx hb hK hP hD hS 3 0 rfl rfl hg46 dX9_apart_230 (fun H locs hP hD hS => ?_)
                        have hP : va_P D vwCl (wX9_apart cI cZ cM cS mo mst mpa mim mik mbi mbk mnr mia min mas mpr mfa mme mse deeds sd ent st (upd prs_8 (Int32.toNatClampNeg x3_9) x8_4) (upd far_8 (Int32.toNatClampNeg x3_9) ((far_8 (Int32.toNatClampNeg x4_2)) + (1 : Int32))) (upd met_10 (Int32.toNatClampNeg x8_4) (1 : Int32))) H := hP
                        have hD : va_D A (wX9_apart cI cZ cM cS mo mst mpa mim mik mbi mbk mnr mia min mas mpr mfa mme mse deeds sd ent st (upd prs_8 (Int32.toNatClampNeg x3_9) x8_4) (upd far_8 (Int32.toNatClampNeg x3_9) ((far_8 (Int32.toNatClampNeg x4_2)) + (1 : Int32))) (upd met_10 (Int32.toNatClampNeg x8_4) (1 : Int32))) := hD
                        refine lv_iinc (v := (x3_9 + (1 : Int32))) (lv' := [(3, .int (x3_9 + (1 : Int32))), (8, .int x8_4), (7, .int x7_4), (6, .int x6_2), (5, .int x5_2), (4, .int x4_2), (0, .ref mo)]) (pc := 231) hx hb dX9_apart_231 hl (k := 5) rfl rfl (by decide) rfl (fun ls hl => ?_)
                        refine lv_iinc (v := (x7_4 + (1 : Int32))) (lv' := [(7, .int (x7_4 + (1 : Int32))), (3, .int (x3_9 + (1 : Int32))), (8, .int x8_4), (6, .int x6_2), (5, .int x5_2), (4, .int x4_2), (0, .ref mo)]) (pc := 234) hx hb dX9_apart_234 hl (k := 2) rfl rfl (by decide) rfl (fun ls hl => ?_)
                        refine lv_goto (pc := 237) (tgt := 143) hx hb dX9_apart_237 (by decide) ?_
                        exact ih _ _ _ _ _ _ _ _ (olp_l hz39 hL39) hP hD hS (lv_sub hl [0, 3, 4, 5, 1, 6] rfl)
                exact lp39 oFu _ _ _ _ _ _ _ _ hL39 hP hD hS (lv_sub hl [0, 1, 2, 3, 4, 5] rfl)
              · have hz27 := oif_f hz27 hc
                refine lv_aload_n (pc := 132) hx hb dX9_apart_132 rfl (lv_at hl 4 rfl) ?_
                refine va_get (pc := 133) (ci := 9) (C := RX9) (T := TX9) (N := 17) hx hb hts inX9 hown hK hP 0 rfl rfl 14 (by decide) fl44 (fun _ h9 => h9) rfl dX9_apart_133 ?_
                refine lv_iload (pc := 136) hx hb dX9_apart_136 (lv_at hl 2 rfl) ?_
                obtain ⟨hg47, hz27⟩ := ogd_e hz27
                refine va_iald (pc := 138) hx hb hK hP 3 0 rfl rfl hg47 dX9_apart_138 ?_
                have hE := olp_r hz27 hL27
                cases hE
                exact hRet _ _ _ _ rfl dX9_apart_139 hP hD hS
        exact lp27 oFu _ _ _ _ _ _ _ _ hL27 hP hD hS (lv_sub hl [0, 1, 2] rfl)
      have lp4 : ∀ (n : Nat) (x3_2 : Int32) (met_2 : (Nat → Int32)) (H : Heap) (locs : List Loc) (ls : Array Slot), olp (fX9_apart_s21) n (x3_2, met_2) = some met_3 → va_P D vwCl (wX9_apart cI cZ cM cS mo mst mpa mim mik mbi mbk mnr mia min mas mpr mfa mme mse deeds sd ent st prs far met_2) H → va_D A (wX9_apart cI cZ cM cS mo mst mpa mim mik mbi mbk mnr mia min mas mpr mfa mme mse deeds sd ent st prs far met_2) → va_S A s.heap H locs → lv_has ls 9 [(3, .int x3_2), (0, .ref mo), (1, .int p1), (2, .int p2)] → W p l e (zRm 2 43) s m args below meth c H locs 0 0 Q (F0 m 21 ls []) := by
        intro n
        induction n with
        | zero => intro x3_2 met_2 H locs ls hL; exact olp_0 hL
        | succ n ih =>
          intro x3_2 met_2 H locs ls hL4 hP hD hS hl
          obtain ⟨z, hz4, hL4⟩ := olp_e hL4
          have hz4 : fX9_apart_b21  x3_2 met_2 = some z := hz4
          unfold fX9_apart_b21 at hz4
          refine lv_iload_n (pc := 21) hx hb dX9_apart_21 rfl (lv_at hl 0 rfl) ?_
          refine lv_sipush (v := (144 : Int32)) (pc := 22) hx hb dX9_apart_22 (by decide) ?_
          refine lv_icmp_ge (pc := 25) (tgt := 41) hx hb dX9_apart_25 (by decide) (fun hc => ?_) (fun hc => ?_)
          · have hz4 := oif_t hz4 hc
            have hE := olp_r hz4 hL4
            cases hE
            exact ex4 _ _ _ hP hD hS (lv_sub hl [1, 2, 3] rfl)
          · have hz4 := oif_f hz4 hc
            refine lv_aload_n (pc := 28) hx hb dX9_apart_28 rfl (lv_at hl 1 rfl) ?_
            refine va_get (pc := 29) (ci := 9) (C := RX9) (T := TX9) (N := 17) hx hb hts inX9 hown hK hP 0 rfl rfl 15 (by decide) fl47 (fun _ h9 => h9) rfl dX9_apart_29 ?_
            refine lv_iload_n (pc := 32) hx hb dX9_apart_32 rfl (lv_at hl 0 rfl) ?_
            refine lv_iconst (v := (0 : Int32)) (pc := 33) hx hb dX9_apart_33 (by decide) ?_
            obtain ⟨hg5, hz4⟩ := ogd_e hz4
            refine va_zast (pc := 34) hx hb hK hP hD hS 4 1 rfl rfl hg5 dX9_apart_34 (fun H locs hP hD hS => ?_)
            have hP : va_P D vwCl (wX9_apart cI cZ cM cS mo mst mpa mim mik mbi mbk mnr mia min mas mpr mfa mme mse deeds sd ent st prs far (upd met_2 (Int32.toNatClampNeg x3_2) (0 : Int32))) H := hP
            have hD : va_D A (wX9_apart cI cZ cM cS mo mst mpa mim mik mbi mbk mnr mia min mas mpr mfa mme mse deeds sd ent st prs far (upd met_2 (Int32.toNatClampNeg x3_2) (0 : Int32))) := hD
            refine lv_iinc (v := (x3_2 + (1 : Int32))) (lv' := [(3, .int (x3_2 + (1 : Int32))), (0, .ref mo), (1, .int p1), (2, .int p2)]) (pc := 35) hx hb dX9_apart_35 hl (k := 0) rfl rfl (by decide) rfl (fun ls hl => ?_)
            refine lv_goto (pc := 38) (tgt := 21) hx hb dX9_apart_38 (by decide) ?_
            exact ih _ _ _ _ _ (olp_l hz4 hL4) hP hD hS (lv_sub hl [0, 1, 2, 3] rfl)
      exact lp4 oFu _ _ _ _ _ hL4 hP hD hS (lv_sub hl [0, 1, 2, 3] rfl)
    · have hF := oif_t hF hc
      refine lv_ldc (v := (-1000000001 : Int32)) (pc := 16) hx hb hown cn93 dX9_apart_16 ?_
      cases hF
      exact hRet _ _ _ _ rfl dX9_apart_18 hP hD hS
def fX9_leastOf_b2 (p1 : Int32) (x2_2 : Int32) : Option ((Int32) ⊕ (Int32)) := (ob1 (fX9_has p1 x2_2) (fun r_2 => (if r_2 = (0 : Int32) then (some (.inl (x2_2 + (1 : Int32)))) else (some (.inr x2_2)))))
def fX9_leastOf_s2 (p1 : Int32) (sg_ : Int32) : Option ((Int32) ⊕ (Int32)) := fX9_leastOf_b2 p1 sg_
def fX9_leastOf (p1 : Int32) (deeds : Int32) (sd : Int32) (ent : Int32) : Option (Int32) := (ob1 (olp (fX9_leastOf_s2 p1) oFu (0 : Int32)) (fun x2_3 => (some x2_3)))
abbrev wX9_leastOf (cI cZ cM cS : ClassId) (mo mst mpa mim mik mbi mbk mnr mia min mas mpr mfa mme mse : Nat) (deeds : Int32) (sd : Int32) (ent : Int32) : va_W := [(mo, .inr (9, [.ref mst, .ref mpa, .int deeds, .ref mim, .ref mik, .int sd, .ref mbi, .ref mbk, .int ent, .ref mnr, .ref mia, .ref min, .ref mas, .ref mpr, .ref mfa, .ref mme, .ref mse]))]
set_option maxHeartbeats 4000000 in
set_option maxRecDepth 100000 in
theorem tX9_leastOf (l : Launch) (D : va_G) (cI cZ cM cS : ClassId) (mo mst mpa mim mik mbi mbk mnr mia min mas mpr mfa mme mse : Nat) (deeds : Int32) (sd : Int32) (ent : Int32) (p1 : Int32) {r : Int32} (hF : fX9_leastOf p1 deeds sd ent = some r) : zCR l yX9_leastOf wsX9_leastOf (zRm 1 21) D (zTy cI cZ cM cS) [.ref mo, .int p1] (wX9_leastOf cI cZ cM cS mo mst mpa mim mik mbi mbk mnr mia min mas mpr mfa mme mse deeds sd ent) r := by
  unfold fX9_leastOf at hF
  refine zCR_of (cc := cX9_leastOf) (maxL := 3) (own := RX9) (by decide +kernel) rfl rfl (Nat.le_of_ble_eq_true rfl) (fun p e s m args below meth c Q ls E hK hP hRet hl => ?_)
  have hl : lv_has ls 3 [(0, .ref mo), (1, .int p1)] := hl
  obtain ⟨hx, hb, hml, hown, hts⟩ := id E
  refine lv_iconst (v := (0 : Int32)) (pc := 0) hx hb dX9_leastOf_0 (by decide) ?_
  refine lv_istore_n (lv' := [(2, .int (0 : Int32)), (0, .ref mo), (1, .int p1)]) (pc := 1) hx hb dX9_leastOf_1 rfl hl (by decide) rfl (fun ls hl => ?_)
  obtain ⟨x2_3, hL2, hF⟩ := ob1_e hF
  have ex2 : ∀ (ls : Array Slot), lv_has ls 3 [(2, .int x2_3)] → W p l e (zRm 1 21) s m args below meth c s.heap [] 0 0 Q (F0 m 16 ls []) := by
    intro ls hl
    refine lv_iload_n (pc := 16) hx hb dX9_leastOf_16 rfl (lv_at hl 0 rfl) ?_
    cases hF
    exact hRet _ _ rfl dX9_leastOf_17
  have lp2 : ∀ (n : Nat) (x2_2 : Int32) (ls : Array Slot), olp (fX9_leastOf_s2 p1) n x2_2 = some x2_3 → lv_has ls 3 [(2, .int x2_2), (1, .int p1)] → W p l e (zRm 1 21) s m args below meth c s.heap [] 0 0 Q (F0 m 2 ls []) := by
    intro n
    induction n with
    | zero => intro x2_2 ls hL; exact olp_0 hL
    | succ n ih =>
      intro x2_2 ls hL2 hl
      obtain ⟨z, hz2, hL2⟩ := olp_e hL2
      have hz2 : fX9_leastOf_b2 p1 x2_2 = some z := hz2
      unfold fX9_leastOf_b2 at hz2
      refine lv_iload_n (pc := 2) hx hb dX9_leastOf_2 rfl (lv_at hl 1 rfl) ?_
      refine lv_iload_n (pc := 3) hx hb dX9_leastOf_3 rfl (lv_at hl 0 rfl) ?_
      obtain ⟨r_2, hC3, hz2⟩ := ob1_e hz2
      refine zSr (pc := 4) (As := [.int p1, .int x2_2]) (rest := []) E (tX9_has l D cI cZ cM cS p1 x2_2 hC3) 2 gX9_leastOf_X9_has rfl rfl rfl (by decide +kernel) ⟨Nat.le_of_ble_eq_true rfl, Nat.le_of_ble_eq_true rfl⟩ hK hP [] rfl rfl hl.1 rfl (Nat.le_of_ble_eq_true rfl) dX9_leastOf_4 ⟨Nat.zero_le _, Nat.zero_le _⟩ ?_
      refine lv_if_ne (pc := 7) (tgt := 16) hx hb dX9_leastOf_7 (by decide) (fun hc => ?_) (fun hc => ?_)
      · have hz2 := oif_f hz2 hc
        have hE := olp_r hz2 hL2
        cases hE
        exact ex2 _ (lv_sub hl [0] rfl)
      · have hz2 := oif_t hz2 hc
        refine lv_iinc (v := (x2_2 + (1 : Int32))) (lv' := [(2, .int (x2_2 + (1 : Int32))), (1, .int p1)]) (pc := 10) hx hb dX9_leastOf_10 hl (k := 0) rfl rfl (by decide) rfl (fun ls hl => ?_)
        refine lv_goto (pc := 13) (tgt := 2) hx hb dX9_leastOf_13 (by decide) ?_
        exact ih _ _ (olp_l hz2 hL2) (lv_sub hl [0, 1] rfl)
  exact lp2 oFu _ _ hL2 (lv_sub hl [0, 2] rfl)
def fX9_searches_b2 (p1 : Int32) (x2_2 : Int32) (asd_2 : (Nat → Int32)) : Option ((Int32 × (Nat → Int32)) ⊕ ((Nat → Int32))) := (if (12 : Int32) ≤ x2_2 then (some (.inr asd_2)) else (ob1 (if x2_2 = p1 then (some (0 : Int32)) else (some (1 : Int32))) (fun z0_2 => (ogd x2_2 12 (some (.inl ((x2_2 + (1 : Int32)), (upd asd_2 (Int32.toNatClampNeg x2_2) z0_2))))))))
def fX9_searches_s2 (p1 : Int32) (sg_ : Int32 × (Nat → Int32)) : Option ((Int32 × (Nat → Int32)) ⊕ ((Nat → Int32))) := fX9_searches_b2 p1 sg_.1 sg_.2
def fX9_searches_b44 (deeds : Int32) (sd : Int32) (ent : Int32) (st : (Nat → Int32)) (asd_7 : (Nat → Int32)) (x3_5 : Int32) : Option ((Int32) ⊕ (Int32)) := (ob1 (fX9_membersOf_a (0 : Int32) x3_5 deeds sd ent st asd_7) (fun r_6 => (if r_6 = (0 : Int32) then (some (.inl (x3_5 + (1 : Int32)))) else (some (.inr x3_5)))))
def fX9_searches_s44 (deeds : Int32) (sd : Int32) (ent : Int32) (st : (Nat → Int32)) (asd_7 : (Nat → Int32)) (sg_ : Int32) : Option ((Int32) ⊕ (Int32)) := fX9_searches_b44 deeds sd ent st asd_7 sg_
def fX9_searches_b32 (st : (Nat → Int32)) (deeds : Int32) (sd : Int32) (ent : Int32) (x2_4 : Int32) (nr_5 : (Nat → Int32)) (asd_7 : (Nat → Int32)) (sea_4 : (Nat → Int32)) : Option ((Int32 × (Nat → Int32) × (Nat → Int32) × (Nat → Int32)) ⊕ ((Nat → Int32) × (Nat → Int32) × (Nat → Int32))) := (if (st 0) ≤ x2_4 then (some (.inr (nr_5, asd_7, sea_4))) else (ob1 (olp (fX9_searches_s44 deeds sd ent st asd_7) oFu (0 : Int32)) (fun x3_6 => (ob1 (fX9_membersOf_a (0 : Int32) x3_6 deeds sd ent st asd_7) (fun r_7 => (ob1 (fX9_leastOf r_7 deeds sd ent) (fun r_8 => (ogd x2_4 12 (ogd r_8 12 (ogd ((16 : Int32) + r_8) 76 (ob2 (fX9_splits_a (0 : Int32) (st (Int32.toNatClampNeg ((16 : Int32) + r_8))) deeds sd ent st nr_5 (upd asd_7 (Int32.toNatClampNeg r_8) (-1 : Int32))) (fun nr_8 asd_10 => (some (.inl ((x2_4 + (1 : Int32)), nr_8, asd_10, (upd sea_4 (Int32.toNatClampNeg x2_4) r_8))))))))))))))))
def fX9_searches_s32 (st : (Nat → Int32)) (deeds : Int32) (sd : Int32) (ent : Int32) (sg_ : Int32 × (Nat → Int32) × (Nat → Int32) × (Nat → Int32)) : Option ((Int32 × (Nat → Int32) × (Nat → Int32) × (Nat → Int32)) ⊕ ((Nat → Int32) × (Nat → Int32) × (Nat → Int32))) := fX9_searches_b32 st deeds sd ent sg_.1 sg_.2.1 sg_.2.2.1 sg_.2.2.2
def fX9_searches (p1 : Int32) (deeds : Int32) (sd : Int32) (ent : Int32) (st : (Nat → Int32)) (nr : (Nat → Int32)) (asd : (Nat → Int32)) (sea : (Nat → Int32)) : Option ((Nat → Int32) × (Nat → Int32) × (Nat → Int32)) := (ob1 (olp (fX9_searches_s2 p1) oFu ((0 : Int32), asd)) (fun asd_3 => (ob3 (olp (fX9_searches_s32 st deeds sd ent) oFu ((0 : Int32), nr, asd_3, sea)) (fun nr_6 asd_8 sea_5 => (some (nr_6, asd_8, sea_5))))))
abbrev wX9_searches (cI cZ cM cS : ClassId) (mo mst mpa mim mik mbi mbk mnr mia min mas mpr mfa mme mse : Nat) (deeds : Int32) (sd : Int32) (ent : Int32) (st : (Nat → Int32)) (nr : (Nat → Int32)) (asd : (Nat → Int32)) (sea : (Nat → Int32)) : va_W := [(mo, .inr (9, [.ref mst, .ref mpa, .int deeds, .ref mim, .ref mik, .int sd, .ref mbi, .ref mbk, .int ent, .ref mnr, .ref mia, .ref min, .ref mas, .ref mpr, .ref mfa, .ref mme, .ref mse])), (mst, .inl (cI, 76, .inl st)), (mnr, .inl (cI, 12, .inl nr)), (mas, .inl (cI, 12, .inl asd)), (mse, .inl (cI, 12, .inl sea))]
set_option maxHeartbeats 4000000 in
set_option maxRecDepth 100000 in
theorem tX9_searches (l : Launch) (D : va_G) (cI cZ cM cS : ClassId) (mo mst mpa mim mik mbi mbk mnr mia min mas mpr mfa mme mse : Nat) (deeds : Int32) (sd : Int32) (ent : Int32) (st : (Nat → Int32)) (nr : (Nat → Int32)) (asd : (Nat → Int32)) (sea : (Nat → Int32)) (p1 : Int32) {nr' : (Nat → Int32)} {asd' : (Nat → Int32)} {sea' : (Nat → Int32)} (hF : fX9_searches p1 deeds sd ent st nr asd sea = some (nr', asd', sea')) : zCW l yX9_searches wsX9_searches (zRm 3 74) D (zTy cI cZ cM cS) [.ref mo, .int p1] (wX9_searches cI cZ cM cS mo mst mpa mim mik mbi mbk mnr mia min mas mpr mfa mme mse deeds sd ent st nr asd sea) (wX9_searches cI cZ cM cS mo mst mpa mim mik mbi mbk mnr mia min mas mpr mfa mme mse deeds sd ent st nr' asd' sea') none := by
  unfold fX9_searches at hF
  refine zCW_ofv (cc := cX9_searches) (maxL := 5) (own := RX9) (by decide) rfl rfl (Nat.le_of_ble_eq_true rfl) (fun p e s m args below meth c Q ls A E hA hK hP hD hRet hS hl => ?_)
  refine zgen (fun H locs hP hS => ?_) hP hS
  have hl : lv_has ls 5 [(0, .ref mo), (1, .int p1)] := hl
  obtain ⟨hx, hb, hml, hown, hts⟩ := id E
  have inX9 : ∀ w ∈ u_ws RX9 TX9 17, w ∈ wsX9_searches := by decide +kernel
  have fl38 := hts (.fieldLink RX9 38 "SplitClassesModel" "aside" "[I") (by decide +kernel)
  have fl50 := hts (.fieldLink RX9 50 "SplitClassesModel" "searched" "[I") (by decide +kernel)
  have fl7 := hts (.fieldLink RX9 7 "SplitClassesModel" "st" "[I") (by decide +kernel)
  refine lv_iconst (v := (0 : Int32)) (pc := 0) hx hb dX9_searches_0 (by decide) ?_
  refine lv_istore_n (lv' := [(2, .int (0 : Int32)), (0, .ref mo), (1, .int p1)]) (pc := 1) hx hb dX9_searches_1 rfl hl (by decide) rfl (fun ls hl => ?_)
  obtain ⟨asd_3, hL3, hF⟩ := ob1_e hF
  have ex3 : ∀ (H : Heap) (locs : List Loc) (ls : Array Slot), va_P D vwCl (wX9_searches cI cZ cM cS mo mst mpa mim mik mbi mbk mnr mia min mas mpr mfa mme mse deeds sd ent st nr asd_3 sea) H → va_D A (wX9_searches cI cZ cM cS mo mst mpa mim mik mbi mbk mnr mia min mas mpr mfa mme mse deeds sd ent st nr asd_3 sea) → va_S A s.heap H locs → lv_has ls 5 [(0, .ref mo)] → W p l e (zRm 3 74) s m args below meth c H locs 0 0 Q (F0 m 30 ls []) := by
    intro H locs ls hP hD hS hl
    refine lv_iconst (v := (0 : Int32)) (pc := 30) hx hb dX9_searches_30 (by decide) ?_
    refine lv_istore_n (lv' := [(2, .int (0 : Int32)), (0, .ref mo)]) (pc := 31) hx hb dX9_searches_31 rfl hl (by decide) rfl (fun ls hl => ?_)
    obtain ⟨nr_6, asd_8, sea_5, hL15, hF⟩ := ob3_e hF
    have ex15 : ∀ (H : Heap) (locs : List Loc) (ls : Array Slot), va_P D vwCl (wX9_searches cI cZ cM cS mo mst mpa mim mik mbi mbk mnr mia min mas mpr mfa mme mse deeds sd ent st nr_6 asd_8 sea_5) H → va_D A (wX9_searches cI cZ cM cS mo mst mpa mim mik mbi mbk mnr mia min mas mpr mfa mme mse deeds sd ent st nr_6 asd_8 sea_5) → va_S A s.heap H locs → lv_has ls 5 [] → W p l e (zRm 3 74) s m args below meth c H locs 0 0 Q (F0 m 120 ls []) := by
      intro H locs ls hP hD hS hl
      cases hF
      exact hRet _ _ _ _ dX9_searches_120 hP hD hS
    have lp15 : ∀ (n : Nat) (x2_4 : Int32) (nr_5 : (Nat → Int32)) (asd_7 : (Nat → Int32)) (sea_4 : (Nat → Int32)) (H : Heap) (locs : List Loc) (ls : Array Slot), olp (fX9_searches_s32 st deeds sd ent) n (x2_4, nr_5, asd_7, sea_4) = some (nr_6, asd_8, sea_5) → va_P D vwCl (wX9_searches cI cZ cM cS mo mst mpa mim mik mbi mbk mnr mia min mas mpr mfa mme mse deeds sd ent st nr_5 asd_7 sea_4) H → va_D A (wX9_searches cI cZ cM cS mo mst mpa mim mik mbi mbk mnr mia min mas mpr mfa mme mse deeds sd ent st nr_5 asd_7 sea_4) → va_S A s.heap H locs → lv_has ls 5 [(2, .int x2_4), (0, .ref mo)] → W p l e (zRm 3 74) s m args below meth c H locs 0 0 Q (F0 m 32 ls []) := by
      intro n
      induction n with
      | zero => intro x2_4 nr_5 asd_7 sea_4 H locs ls hL; exact olp_0 hL
      | succ n ih =>
        intro x2_4 nr_5 asd_7 sea_4 H locs ls hL15 hP hD hS hl
        obtain ⟨z, hz15, hL15⟩ := olp_e hL15
        have hz15 : fX9_searches_b32 st deeds sd ent x2_4 nr_5 asd_7 sea_4 = some z := hz15
        unfold fX9_searches_b32 at hz15
        refine lv_iload_n (pc := 32) hx hb dX9_searches_32 rfl (lv_at hl 0 rfl) ?_
        refine lv_aload_n (pc := 33) hx hb dX9_searches_33 rfl (lv_at hl 1 rfl) ?_
        refine va_get (pc := 34) (ci := 9) (C := RX9) (T := TX9) (N := 17) hx hb hts inX9 hown hK hP 0 rfl rfl 0 (by decide) fl7 (fun _ h9 => h9) rfl dX9_searches_34 ?_
        refine lv_iconst (v := (0 : Int32)) (pc := 37) hx hb dX9_searches_37 (by decide) ?_
        refine z_iald (pc := 38) (k := 0) hx hb hK hP 1 0 rfl rfl (by decide) (by decide) dX9_searches_38 ?_
        refine lv_icmp_ge (pc := 39) (tgt := 120) hx hb dX9_searches_39 (by decide) (fun hc => ?_) (fun hc => ?_)
        · have hz15 := oif_t hz15 hc
          have hE := olp_r hz15 hL15
          cases hE
          exact ex15 _ _ _ hP hD hS (lv_sub hl [] rfl)
        · have hz15 := oif_f hz15 hc
          refine lv_iconst (v := (0 : Int32)) (pc := 42) hx hb dX9_searches_42 (by decide) ?_
          refine lv_istore_n (lv' := [(3, .int (0 : Int32)), (2, .int x2_4), (0, .ref mo)]) (pc := 43) hx hb dX9_searches_43 rfl hl (by decide) rfl (fun ls hl => ?_)
          obtain ⟨x3_6, hL17, hz15⟩ := ob1_e hz15
          have ex17 : ∀ (H : Heap) (locs : List Loc) (ls : Array Slot), va_P D vwCl (wX9_searches cI cZ cM cS mo mst mpa mim mik mbi mbk mnr mia min mas mpr mfa mme mse deeds sd ent st nr_5 asd_7 sea_4) H → va_D A (wX9_searches cI cZ cM cS mo mst mpa mim mik mbi mbk mnr mia min mas mpr mfa mme mse deeds sd ent st nr_5 asd_7 sea_4) → va_S A s.heap H locs → lv_has ls 5 [(3, .int x3_6), (2, .int x2_4), (0, .ref mo)] → W p l e (zRm 3 74) s m args below meth c H locs 0 0 Q (F0 m 63 ls []) := by
            intro H locs ls hP hD hS hl
            refine lv_aload_n (pc := 63) hx hb dX9_searches_63 rfl (lv_at hl 2 rfl) ?_
            refine lv_aload_n (pc := 64) hx hb dX9_searches_64 rfl (lv_at hl 2 rfl) ?_
            refine lv_aload_n (pc := 65) hx hb dX9_searches_65 rfl (lv_at hl 2 rfl) ?_
            refine va_get (pc := 66) (ci := 9) (C := RX9) (T := TX9) (N := 17) hx hb hts inX9 hown hK hP 0 rfl rfl 12 (by decide) fl38 (fun _ h9 => h9) rfl dX9_searches_66 ?_
            refine lv_iconst (v := (0 : Int32)) (pc := 69) hx hb dX9_searches_69 (by decide) ?_
            refine lv_iload_n (pc := 70) hx hb dX9_searches_70 rfl (lv_at hl 0 rfl) ?_
            obtain ⟨r_7, hC19, hz15⟩ := ob1_e hz15
            refine zVr (pc := 71) (As := [.ref mas, .int (0 : Int32), .int x3_6]) (rest := [.ref mo]) E (tX9_membersOf_a l D cI cZ cM cS mo mst mpa mim mik mbi mbk mnr mia min mas mpr mfa mme mse deeds sd ent st asd_7 (0 : Int32) x3_6 hC19) 3 gX9_searches_X9_membersOf rfl rfl rfl (by decide +kernel) ⟨Nat.le_of_ble_eq_true rfl, Nat.le_of_ble_eq_true rfl⟩ hK hP [0, 1, 3] rfl 0 9 rfl rfl rfl rfl hl.1 rfl (Nat.le_of_ble_eq_true rfl) dX9_searches_71 ⟨Nat.zero_le _, Nat.zero_le _⟩ ?_
            obtain ⟨r_8, hC20, hz15⟩ := ob1_e hz15
            refine zVr (pc := 74) (As := [.int r_7]) (rest := []) E (tX9_leastOf l D cI cZ cM cS mo mst mpa mim mik mbi mbk mnr mia min mas mpr mfa mme mse deeds sd ent r_7 hC20) 1 gX9_searches_X9_leastOf rfl rfl rfl (by decide +kernel) ⟨Nat.le_of_ble_eq_true rfl, Nat.le_of_ble_eq_true rfl⟩ hK hP [0] rfl 0 9 rfl rfl rfl rfl hl.1 rfl (Nat.le_of_ble_eq_true rfl) dX9_searches_74 ⟨Nat.zero_le _, Nat.zero_le _⟩ ?_
            refine lv_istore (lv' := [(4, .int r_8), (3, .int x3_6), (2, .int x2_4), (0, .ref mo)]) (pc := 77) hx hb dX9_searches_77 hl (by decide) rfl (fun ls hl => ?_)
            refine lv_aload_n (pc := 79) hx hb dX9_searches_79 rfl (lv_at hl 3 rfl) ?_
            refine va_get (pc := 80) (ci := 9) (C := RX9) (T := TX9) (N := 17) hx hb hts inX9 hown hK hP 0 rfl rfl 16 (by decide) fl50 (fun _ h9 => h9) rfl dX9_searches_80 ?_
            refine lv_iload_n (pc := 83) hx hb dX9_searches_83 rfl (lv_at hl 2 rfl) ?_
            refine lv_iload (pc := 84) hx hb dX9_searches_84 (lv_at hl 0 rfl) ?_
            obtain ⟨hg21, hz15⟩ := ogd_e hz15
            refine va_iast (pc := 86) hx hb hK hP hD hS 4 0 rfl rfl hg21 dX9_searches_86 (fun H locs hP hD hS => ?_)
            have hP : va_P D vwCl (wX9_searches cI cZ cM cS mo mst mpa mim mik mbi mbk mnr mia min mas mpr mfa mme mse deeds sd ent st nr_5 asd_7 (upd sea_4 (Int32.toNatClampNeg x2_4) r_8)) H := hP
            have hD : va_D A (wX9_searches cI cZ cM cS mo mst mpa mim mik mbi mbk mnr mia min mas mpr mfa mme mse deeds sd ent st nr_5 asd_7 (upd sea_4 (Int32.toNatClampNeg x2_4) r_8)) := hD
            refine lv_aload_n (pc := 87) hx hb dX9_searches_87 rfl (lv_at hl 3 rfl) ?_
            refine va_get (pc := 88) (ci := 9) (C := RX9) (T := TX9) (N := 17) hx hb hts inX9 hown hK hP 0 rfl rfl 12 (by decide) fl38 (fun _ h9 => h9) rfl dX9_searches_88 ?_
            refine lv_iload (pc := 91) hx hb dX9_searches_91 (lv_at hl 0 rfl) ?_
            refine lv_iconst (v := (-1 : Int32)) (pc := 93) hx hb dX9_searches_93 (by decide) ?_
            obtain ⟨hg22, hz15⟩ := ogd_e hz15
            refine va_iast (pc := 94) hx hb hK hP hD hS 3 0 rfl rfl hg22 dX9_searches_94 (fun H locs hP hD hS => ?_)
            have hP : va_P D vwCl (wX9_searches cI cZ cM cS mo mst mpa mim mik mbi mbk mnr mia min mas mpr mfa mme mse deeds sd ent st nr_5 (upd asd_7 (Int32.toNatClampNeg r_8) (-1 : Int32)) (upd sea_4 (Int32.toNatClampNeg x2_4) r_8)) H := hP
            have hD : va_D A (wX9_searches cI cZ cM cS mo mst mpa mim mik mbi mbk mnr mia min mas mpr mfa mme mse deeds sd ent st nr_5 (upd asd_7 (Int32.toNatClampNeg r_8) (-1 : Int32)) (upd sea_4 (Int32.toNatClampNeg x2_4) r_8)) := hD
            refine lv_aload_n (pc := 95) hx hb dX9_searches_95 rfl (lv_at hl 3 rfl) ?_
            refine lv_aload_n (pc := 96) hx hb dX9_searches_96 rfl (lv_at hl 3 rfl) ?_
            refine va_get (pc := 97) (ci := 9) (C := RX9) (T := TX9) (N := 17) hx hb hts inX9 hown hK hP 0 rfl rfl 12 (by decide) fl38 (fun _ h9 => h9) rfl dX9_searches_97 ?_
            refine lv_iconst (v := (0 : Int32)) (pc := 100) hx hb dX9_searches_100 (by decide) ?_
            refine lv_aload_n (pc := 101) hx hb dX9_searches_101 rfl (lv_at hl 3 rfl) ?_
            refine va_get (pc := 102) (ci := 9) (C := RX9) (T := TX9) (N := 17) hx hb hts inX9 hown hK hP 0 rfl rfl 0 (by decide) fl7 (fun _ h9 => h9) rfl dX9_searches_102 ?_
            refine lv_bipush (v := (16 : Int32)) (pc := 105) hx hb dX9_searches_105 (by decide) ?_
            refine lv_iload (pc := 107) hx hb dX9_searches_107 (lv_at hl 0 rfl) ?_
            refine lv_iadd (pc := 109) hx hb dX9_searches_109 ?_
            obtain ⟨hg23, hz15⟩ := ogd_e hz15
            refine va_iald (pc := 110) hx hb hK hP 1 0 rfl rfl hg23 dX9_searches_110 ?_
            obtain ⟨nr_8, asd_10, hC24, hz15⟩ := ob2_e hz15
            refine zV (pc := 111) (As := [.ref mas, .int (0 : Int32), .int (st (Int32.toNatClampNeg ((16 : Int32) + r_8)))]) (rest := []) (wr := [(mse, .inl (cI, 12, .inl (upd sea_4 (Int32.toNatClampNeg x2_4) r_8)))]) (w2 := (wX9_searches cI cZ cM cS mo mst mpa mim mik mbi mbk mnr mia min mas mpr mfa mme mse deeds sd ent st nr_8 asd_10 (upd sea_4 (Int32.toNatClampNeg x2_4) r_8))) E (tX9_splits_a l D cI cZ cM cS mo mst mpa mim mik mbi mbk mnr mia min mas mpr mfa mme mse deeds sd ent st nr_5 (upd asd_7 (Int32.toNatClampNeg r_8) (-1 : Int32)) (0 : Int32) (st (Int32.toNatClampNeg ((16 : Int32) + r_8))) hC24) 3 gX9_searches_X9_splits rfl rfl rfl (by decide +kernel) ⟨Nat.le_of_ble_eq_true rfl, Nat.le_of_ble_eq_true rfl⟩ hK hP hD hS hA [0, 1, 2, 3] [4] [1, 2, 3, 4, 0] (by decide) rfl rfl (by decide) (by decide) rfl (by decide) 0 9 rfl rfl rfl rfl hl.1 rfl (Nat.le_of_ble_eq_true rfl) dX9_searches_111 ⟨Nat.zero_le _, Nat.zero_le _⟩ (fun H locs hP hD hS => ?_)
            refine W.eq (g2 := F0 m 114 ls []) rfl ?_
            refine lv_iinc (v := (x2_4 + (1 : Int32))) (lv' := [(2, .int (x2_4 + (1 : Int32))), (4, .int r_8), (3, .int x3_6), (0, .ref mo)]) (pc := 114) hx hb dX9_searches_114 hl (k := 2) rfl rfl (by decide) rfl (fun ls hl => ?_)
            refine lv_goto (pc := 117) (tgt := 32) hx hb dX9_searches_117 (by decide) ?_
            exact ih _ _ _ _ _ _ _ (olp_l hz15 hL15) hP hD hS (lv_sub hl [0, 3] rfl)
          have lp17 : ∀ (n : Nat) (x3_5 : Int32) (H : Heap) (locs : List Loc) (ls : Array Slot), olp (fX9_searches_s44 deeds sd ent st asd_7) n x3_5 = some x3_6 → va_P D vwCl (wX9_searches cI cZ cM cS mo mst mpa mim mik mbi mbk mnr mia min mas mpr mfa mme mse deeds sd ent st nr_5 asd_7 sea_4) H → va_D A (wX9_searches cI cZ cM cS mo mst mpa mim mik mbi mbk mnr mia min mas mpr mfa mme mse deeds sd ent st nr_5 asd_7 sea_4) → va_S A s.heap H locs → lv_has ls 5 [(3, .int x3_5), (2, .int x2_4), (0, .ref mo)] → W p l e (zRm 3 74) s m args below meth c H locs 0 0 Q (F0 m 44 ls []) := by
            intro n
            induction n with
            | zero => intro x3_5 H locs ls hL; exact olp_0 hL
            | succ n ih =>
              intro x3_5 H locs ls hL17 hP hD hS hl
              obtain ⟨z, hz17, hL17⟩ := olp_e hL17
              have hz17 : fX9_searches_b44 deeds sd ent st asd_7 x3_5 = some z := hz17
              unfold fX9_searches_b44 at hz17
              refine lv_aload_n (pc := 44) hx hb dX9_searches_44 rfl (lv_at hl 2 rfl) ?_
              refine lv_aload_n (pc := 45) hx hb dX9_searches_45 rfl (lv_at hl 2 rfl) ?_
              refine va_get (pc := 46) (ci := 9) (C := RX9) (T := TX9) (N := 17) hx hb hts inX9 hown hK hP 0 rfl rfl 12 (by decide) fl38 (fun _ h9 => h9) rfl dX9_searches_46 ?_
              refine lv_iconst (v := (0 : Int32)) (pc := 49) hx hb dX9_searches_49 (by decide) ?_
              refine lv_iload_n (pc := 50) hx hb dX9_searches_50 rfl (lv_at hl 0 rfl) ?_
              obtain ⟨r_6, hC18, hz17⟩ := ob1_e hz17
              refine zVr (pc := 51) (As := [.ref mas, .int (0 : Int32), .int x3_5]) (rest := []) E (tX9_membersOf_a l D cI cZ cM cS mo mst mpa mim mik mbi mbk mnr mia min mas mpr mfa mme mse deeds sd ent st asd_7 (0 : Int32) x3_5 hC18) 3 gX9_searches_X9_membersOf rfl rfl rfl (by decide +kernel) ⟨Nat.le_of_ble_eq_true rfl, Nat.le_of_ble_eq_true rfl⟩ hK hP [0, 1, 3] rfl 0 9 rfl rfl rfl rfl hl.1 rfl (Nat.le_of_ble_eq_true rfl) dX9_searches_51 ⟨Nat.zero_le _, Nat.zero_le _⟩ ?_
              refine lv_if_ne (pc := 54) (tgt := 63) hx hb dX9_searches_54 (by decide) (fun hc => ?_) (fun hc => ?_)
              · have hz17 := oif_f hz17 hc
                have hE := olp_r hz17 hL17
                cases hE
                exact ex17 _ _ _ hP hD hS (lv_sub hl [0, 1, 2] rfl)
              · have hz17 := oif_t hz17 hc
                refine lv_iinc (v := (x3_5 + (1 : Int32))) (lv' := [(3, .int (x3_5 + (1 : Int32))), (2, .int x2_4), (0, .ref mo)]) (pc := 57) hx hb dX9_searches_57 hl (k := 0) rfl rfl (by decide) rfl (fun ls hl => ?_)
                refine lv_goto (pc := 60) (tgt := 44) hx hb dX9_searches_60 (by decide) ?_
                exact ih _ _ _ _ (olp_l hz17 hL17) hP hD hS (lv_sub hl [0, 1, 2] rfl)
          exact lp17 oFu _ _ _ _ hL17 hP hD hS (lv_sub hl [0, 1, 2] rfl)
    exact lp15 oFu _ _ _ _ _ _ _ hL15 hP hD hS (lv_sub hl [0, 1] rfl)
  have lp3 : ∀ (n : Nat) (x2_2 : Int32) (asd_2 : (Nat → Int32)) (H : Heap) (locs : List Loc) (ls : Array Slot), olp (fX9_searches_s2 p1) n (x2_2, asd_2) = some asd_3 → va_P D vwCl (wX9_searches cI cZ cM cS mo mst mpa mim mik mbi mbk mnr mia min mas mpr mfa mme mse deeds sd ent st nr asd_2 sea) H → va_D A (wX9_searches cI cZ cM cS mo mst mpa mim mik mbi mbk mnr mia min mas mpr mfa mme mse deeds sd ent st nr asd_2 sea) → va_S A s.heap H locs → lv_has ls 5 [(2, .int x2_2), (0, .ref mo), (1, .int p1)] → W p l e (zRm 3 74) s m args below meth c H locs 0 0 Q (F0 m 2 ls []) := by
    intro n
    induction n with
    | zero => intro x2_2 asd_2 H locs ls hL; exact olp_0 hL
    | succ n ih =>
      intro x2_2 asd_2 H locs ls hL3 hP hD hS hl
      obtain ⟨z, hz3, hL3⟩ := olp_e hL3
      have hz3 : fX9_searches_b2 p1 x2_2 asd_2 = some z := hz3
      unfold fX9_searches_b2 at hz3
      refine lv_iload_n (pc := 2) hx hb dX9_searches_2 rfl (lv_at hl 0 rfl) ?_
      refine lv_bipush (v := (12 : Int32)) (pc := 3) hx hb dX9_searches_3 (by decide) ?_
      refine lv_icmp_ge (pc := 5) (tgt := 30) hx hb dX9_searches_5 (by decide) (fun hc => ?_) (fun hc => ?_)
      · have hz3 := oif_t hz3 hc
        have hE := olp_r hz3 hL3
        cases hE
        exact ex3 _ _ _ hP hD hS (lv_sub hl [1] rfl)
      · have hz3 := oif_f hz3 hc
        refine lv_aload_n (pc := 8) hx hb dX9_searches_8 rfl (lv_at hl 1 rfl) ?_
        refine va_get (pc := 9) (ci := 9) (C := RX9) (T := TX9) (N := 17) hx hb hts inX9 hown hK hP 0 rfl rfl 12 (by decide) fl38 (fun _ h9 => h9) rfl dX9_searches_9 ?_
        refine lv_iload_n (pc := 12) hx hb dX9_searches_12 rfl (lv_at hl 0 rfl) ?_
        refine lv_iload_n (pc := 13) hx hb dX9_searches_13 rfl (lv_at hl 0 rfl) ?_
        refine lv_iload_n (pc := 14) hx hb dX9_searches_14 rfl (lv_at hl 2 rfl) ?_
        obtain ⟨z0_2, hM4, hz3⟩ := ob1_e hz3
        have jn4 : ∀ (H : Heap) (locs : List Loc) (ls : Array Slot), va_P D vwCl (wX9_searches cI cZ cM cS mo mst mpa mim mik mbi mbk mnr mia min mas mpr mfa mme mse deeds sd ent st nr asd_2 sea) H → va_D A (wX9_searches cI cZ cM cS mo mst mpa mim mik mbi mbk mnr mia min mas mpr mfa mme mse deeds sd ent st nr asd_2 sea) → va_S A s.heap H locs → lv_has ls 5 [(2, .int x2_2), (0, .ref mo), (1, .int p1)] → W p l e (zRm 3 74) s m args below meth c H locs 0 0 Q (F0 m 23 ls [.int z0_2, .int x2_2, .ref mas]) := by
          intro H locs ls hP hD hS hl
          obtain ⟨hg5, hz3⟩ := ogd_e hz3
          refine va_iast (pc := 23) hx hb hK hP hD hS 3 0 rfl rfl hg5 dX9_searches_23 (fun H locs hP hD hS => ?_)
          have hP : va_P D vwCl (wX9_searches cI cZ cM cS mo mst mpa mim mik mbi mbk mnr mia min mas mpr mfa mme mse deeds sd ent st nr (upd asd_2 (Int32.toNatClampNeg x2_2) z0_2) sea) H := hP
          have hD : va_D A (wX9_searches cI cZ cM cS mo mst mpa mim mik mbi mbk mnr mia min mas mpr mfa mme mse deeds sd ent st nr (upd asd_2 (Int32.toNatClampNeg x2_2) z0_2) sea) := hD
          refine lv_iinc (v := (x2_2 + (1 : Int32))) (lv' := [(2, .int (x2_2 + (1 : Int32))), (0, .ref mo), (1, .int p1)]) (pc := 24) hx hb dX9_searches_24 hl (k := 0) rfl rfl (by decide) rfl (fun ls hl => ?_)
          refine lv_goto (pc := 27) (tgt := 2) hx hb dX9_searches_27 (by decide) ?_
          exact ih _ _ _ _ _ (olp_l hz3 hL3) hP hD hS (lv_sub hl [0, 1, 2] rfl)
        refine lv_icmp_ne (pc := 15) (tgt := 22) hx hb dX9_searches_15 (by decide) (fun hc => ?_) (fun hc => ?_)
        · have hM4 := oif_f hM4 hc
          refine lv_iconst (v := (1 : Int32)) (pc := 22) hx hb dX9_searches_22 (by decide) ?_
          cases hM4
          exact jn4 _ _ _ hP hD hS (lv_sub hl [0, 1, 2] rfl)
        · have hM4 := oif_t hM4 hc
          refine lv_iconst (v := (0 : Int32)) (pc := 18) hx hb dX9_searches_18 (by decide) ?_
          refine lv_goto (pc := 19) (tgt := 23) hx hb dX9_searches_19 (by decide) ?_
          cases hM4
          exact jn4 _ _ _ hP hD hS (lv_sub hl [0, 1, 2] rfl)
  exact lp3 oFu _ _ _ _ _ hL3 hP hD hS (lv_sub hl [0, 1, 2] rfl)
def fX9_search (p1 : Int32) (p2 : Int32) (deeds : Int32) (sd : Int32) (ent : Int32) (st : (Nat → Int32)) (nr : (Nat → Int32)) (asd : (Nat → Int32)) (sea : (Nat → Int32)) : Option (Int32 × (Nat → Int32) × (Nat → Int32) × (Nat → Int32)) := (ob1 (fX9_isItem p1 deeds sd ent st) (fun r_1 => (if r_1 = (0 : Int32) then (some ((-1000000001 : Int32), nr, asd, sea)) else (ob1 (fX9_isItem p2 deeds sd ent st) (fun r_2 => (if r_2 = (0 : Int32) then (some ((-1000000001 : Int32), nr, asd, sea)) else (ob3 (fX9_searches p1 deeds sd ent st nr asd sea) (fun nr_1 asd_1 sea_1 => (ogd p2 12 (some ((sea_1 (Int32.toNatClampNeg p2)), nr_1, asd_1, sea_1)))))))))))
abbrev wX9_search (cI cZ cM cS : ClassId) (mo mst mpa mim mik mbi mbk mnr mia min mas mpr mfa mme mse : Nat) (deeds : Int32) (sd : Int32) (ent : Int32) (st : (Nat → Int32)) (nr : (Nat → Int32)) (asd : (Nat → Int32)) (sea : (Nat → Int32)) : va_W := [(mo, .inr (9, [.ref mst, .ref mpa, .int deeds, .ref mim, .ref mik, .int sd, .ref mbi, .ref mbk, .int ent, .ref mnr, .ref mia, .ref min, .ref mas, .ref mpr, .ref mfa, .ref mme, .ref mse])), (mst, .inl (cI, 76, .inl st)), (mnr, .inl (cI, 12, .inl nr)), (mas, .inl (cI, 12, .inl asd)), (mse, .inl (cI, 12, .inl sea))]
set_option maxHeartbeats 4000000 in
set_option maxRecDepth 100000 in
theorem tX9_search (l : Launch) (D : va_G) (cI cZ cM cS : ClassId) (mo mst mpa mim mik mbi mbk mnr mia min mas mpr mfa mme mse : Nat) (deeds : Int32) (sd : Int32) (ent : Int32) (st : (Nat → Int32)) (nr : (Nat → Int32)) (asd : (Nat → Int32)) (sea : (Nat → Int32)) (p1 : Int32) (p2 : Int32) {r : Int32} {nr' : (Nat → Int32)} {asd' : (Nat → Int32)} {sea' : (Nat → Int32)} (hF : fX9_search p1 p2 deeds sd ent st nr asd sea = some (r, nr', asd', sea')) : zCW l yX9_search wsX9_search (zRm 4 98) D (zTy cI cZ cM cS) [.ref mo, .int p1, .int p2] (wX9_search cI cZ cM cS mo mst mpa mim mik mbi mbk mnr mia min mas mpr mfa mme mse deeds sd ent st nr asd sea) (wX9_search cI cZ cM cS mo mst mpa mim mik mbi mbk mnr mia min mas mpr mfa mme mse deeds sd ent st nr' asd' sea') (some (.int r)) := by
  unfold fX9_search at hF
  refine zCW_ofi (cc := cX9_search) (maxL := 3) (own := RX9) (by decide) rfl rfl (Nat.le_of_ble_eq_true rfl) (fun p e s m args below meth c Q ls A E hA hK hP hD hRet hS hl => ?_)
  refine zgen (fun H locs hP hS => ?_) hP hS
  have hl : lv_has ls 3 [(0, .ref mo), (1, .int p1), (2, .int p2)] := hl
  obtain ⟨hx, hb, hml, hown, hts⟩ := id E
  have inX9 : ∀ w ∈ u_ws RX9 TX9 17, w ∈ wsX9_search := by decide +kernel
  have fl50 := hts (.fieldLink RX9 50 "SplitClassesModel" "searched" "[I") (by decide +kernel)
  have cn93 := hts (.constant RX9 93 (-1000000001)) (by decide +kernel)
  refine lv_aload_n (pc := 0) hx hb dX9_search_0 rfl (lv_at hl 0 rfl) ?_
  refine lv_iload_n (pc := 1) hx hb dX9_search_1 rfl (lv_at hl 1 rfl) ?_
  obtain ⟨r_1, hC1, hF⟩ := ob1_e hF
  refine zVr (pc := 2) (As := [.int p1]) (rest := []) E (tX9_isItem l D cI cZ cM cS mo mst mpa mim mik mbi mbk mnr mia min mas mpr mfa mme mse deeds sd ent st p1 hC1) 1 gX9_search_X9_isItem rfl rfl rfl (by decide +kernel) ⟨Nat.le_of_ble_eq_true rfl, Nat.le_of_ble_eq_true rfl⟩ hK hP [0, 1] rfl 0 9 rfl rfl rfl rfl hl.1 rfl (Nat.le_of_ble_eq_true rfl) dX9_search_2 ⟨Nat.zero_le _, Nat.zero_le _⟩ ?_
  refine lv_if_eq (pc := 5) (tgt := 16) hx hb dX9_search_5 (by decide) (fun hc => ?_) (fun hc => ?_)
  · have hF := oif_t hF hc
    refine lv_ldc (v := (-1000000001 : Int32)) (pc := 16) hx hb hown cn93 dX9_search_16 ?_
    cases hF
    exact hRet _ _ _ _ rfl dX9_search_18 hP hD hS
  · have hF := oif_f hF hc
    refine lv_aload_n (pc := 8) hx hb dX9_search_8 rfl (lv_at hl 0 rfl) ?_
    refine lv_iload_n (pc := 9) hx hb dX9_search_9 rfl (lv_at hl 2 rfl) ?_
    obtain ⟨r_2, hC2, hF⟩ := ob1_e hF
    refine zVr (pc := 10) (As := [.int p2]) (rest := []) E (tX9_isItem l D cI cZ cM cS mo mst mpa mim mik mbi mbk mnr mia min mas mpr mfa mme mse deeds sd ent st p2 hC2) 1 gX9_search_X9_isItem rfl rfl rfl (by decide +kernel) ⟨Nat.le_of_ble_eq_true rfl, Nat.le_of_ble_eq_true rfl⟩ hK hP [0, 1] rfl 0 9 rfl rfl rfl rfl hl.1 rfl (Nat.le_of_ble_eq_true rfl) dX9_search_10 ⟨Nat.zero_le _, Nat.zero_le _⟩ ?_
    refine lv_if_ne (pc := 13) (tgt := 19) hx hb dX9_search_13 (by decide) (fun hc => ?_) (fun hc => ?_)
    · have hF := oif_f hF hc
      refine lv_aload_n (pc := 19) hx hb dX9_search_19 rfl (lv_at hl 0 rfl) ?_
      refine lv_iload_n (pc := 20) hx hb dX9_search_20 rfl (lv_at hl 1 rfl) ?_
      obtain ⟨nr_1, asd_1, sea_1, hC3, hF⟩ := ob3_e hF
      refine zV (pc := 21) (As := [.int p1]) (rest := []) (wr := []) (w2 := (wX9_search cI cZ cM cS mo mst mpa mim mik mbi mbk mnr mia min mas mpr mfa mme mse deeds sd ent st nr_1 asd_1 sea_1)) E (tX9_searches l D cI cZ cM cS mo mst mpa mim mik mbi mbk mnr mia min mas mpr mfa mme mse deeds sd ent st nr asd sea p1 hC3) 1 gX9_search_X9_searches rfl rfl rfl (by decide +kernel) ⟨Nat.le_of_ble_eq_true rfl, Nat.le_of_ble_eq_true rfl⟩ hK hP hD hS hA [0, 1, 2, 3, 4] [] [0, 1, 2, 3, 4] (by decide) rfl rfl (by decide) (by decide) rfl (by decide) 0 9 rfl rfl rfl rfl hl.1 rfl (Nat.le_of_ble_eq_true rfl) dX9_search_21 ⟨Nat.zero_le _, Nat.zero_le _⟩ (fun H locs hP hD hS => ?_)
      refine W.eq (g2 := F0 m 24 ls []) rfl ?_
      refine lv_aload_n (pc := 24) hx hb dX9_search_24 rfl (lv_at hl 0 rfl) ?_
      refine va_get (pc := 25) (ci := 9) (C := RX9) (T := TX9) (N := 17) hx hb hts inX9 hown hK hP 0 rfl rfl 16 (by decide) fl50 (fun _ h9 => h9) rfl dX9_search_25 ?_
      refine lv_iload_n (pc := 28) hx hb dX9_search_28 rfl (lv_at hl 2 rfl) ?_
      obtain ⟨hg4, hF⟩ := ogd_e hF
      refine va_iald (pc := 29) hx hb hK hP 4 0 rfl rfl hg4 dX9_search_29 ?_
      cases hF
      exact hRet _ _ _ _ rfl dX9_search_30 hP hD hS
    · have hF := oif_t hF hc
      refine lv_ldc (v := (-1000000001 : Int32)) (pc := 16) hx hb hown cn93 dX9_search_16 ?_
      cases hF
      exact hRet _ _ _ _ rfl dX9_search_18 hP hD hS
def fX9_faultNow_b45 (x2_2 : Int32) (x4_2 : Int32) (sea_1 : (Nat → Int32)) (x6_4 : Int32) (x5_5 : Int32) : Option ((Int32 × Int32) ⊕ (Int32)) := (if x2_2 ≤ x6_4 then (some (.inr x5_5)) else (ogd x6_4 12 (ob1 (fX9_has x4_2 (sea_1 (Int32.toNatClampNeg x6_4))) (fun r_4 => (if r_4 = (0 : Int32) then (some (.inl ((x6_4 + (1 : Int32)), x5_5))) else (ogd x6_4 12 (some (.inl ((x6_4 + (1 : Int32)), (sea_1 (Int32.toNatClampNeg x6_4)))))))))))
def fX9_faultNow_s45 (x2_2 : Int32) (x4_2 : Int32) (sea_1 : (Nat → Int32)) (sg_ : Int32 × Int32) : Option ((Int32 × Int32) ⊕ (Int32)) := fX9_faultNow_b45 x2_2 x4_2 sea_1 sg_.1 sg_.2
def fX9_faultNow_b9 (st : (Nat → Int32)) (nr_1 : (Nat → Int32)) (asd_1 : (Nat → Int32)) (sea_1 : (Nat → Int32)) (x2_2 : Int32) (x1_4 : Int32) : Option ((Int32 × Int32) ⊕ (Int32 × (Nat → Int32) × (Nat → Int32) × (Nat → Int32))) := (if (st 0) ≤ x2_2 then (some (.inr ((-1 : Int32), nr_1, asd_1, sea_1))) else (ogd x2_2 12 (ogd ((16 : Int32) + (sea_1 (Int32.toNatClampNeg x2_2))) 76 (onm ((st (Int32.toNatClampNeg ((16 : Int32) + (sea_1 (Int32.toNatClampNeg x2_2))))) &&& x1_4) (fun x4_2 => (ob1 (olp (fX9_faultNow_s45 x2_2 x4_2 sea_1) oFu ((0 : Int32), (-1 : Int32))) (fun x5_6 => (if x5_6 = (-1 : Int32) then (onm (x1_4 ||| ((1 : Int32) <<< ((sea_1 (Int32.toNatClampNeg x2_2)) &&& 31))) (fun x1_5 => (some (.inl ((x2_2 + (1 : Int32)), x1_5))))) else (ogd ((16 : Int32) + x5_6) 76 (if ((x4_2 &&& (((1 : Int32) <<< (x5_6 &&& 31)) ^^^ (-1 : Int32))) &&& ((st (Int32.toNatClampNeg ((16 : Int32) + x5_6))) ^^^ (-1 : Int32))) = (0 : Int32) then (onm (x1_4 ||| ((1 : Int32) <<< ((sea_1 (Int32.toNatClampNeg x2_2)) &&& 31))) (fun x1_6 => (some (.inl ((x2_2 + (1 : Int32)), x1_6))))) else (some (.inr ((sea_1 (Int32.toNatClampNeg x2_2)), nr_1, asd_1, sea_1)))))))))))))
def fX9_faultNow_s9 (st : (Nat → Int32)) (nr_1 : (Nat → Int32)) (asd_1 : (Nat → Int32)) (sea_1 : (Nat → Int32)) (sg_ : Int32 × Int32) : Option ((Int32 × Int32) ⊕ (Int32 × (Nat → Int32) × (Nat → Int32) × (Nat → Int32))) := fX9_faultNow_b9 st nr_1 asd_1 sea_1 sg_.1 sg_.2
def fX9_faultNow (deeds : Int32) (sd : Int32) (ent : Int32) (st : (Nat → Int32)) (nr : (Nat → Int32)) (asd : (Nat → Int32)) (sea : (Nat → Int32)) : Option (Int32 × (Nat → Int32) × (Nat → Int32) × (Nat → Int32)) := (ob3 (fX9_searches (0 : Int32) deeds sd ent st nr asd sea) (fun nr_1 asd_1 sea_1 => (olp (fX9_faultNow_s9 st nr_1 asd_1 sea_1) oFu ((0 : Int32), (0 : Int32)))))
abbrev wX9_faultNow (cI cZ cM cS : ClassId) (mo mst mpa mim mik mbi mbk mnr mia min mas mpr mfa mme mse : Nat) (deeds : Int32) (sd : Int32) (ent : Int32) (st : (Nat → Int32)) (nr : (Nat → Int32)) (asd : (Nat → Int32)) (sea : (Nat → Int32)) : va_W := [(mo, .inr (9, [.ref mst, .ref mpa, .int deeds, .ref mim, .ref mik, .int sd, .ref mbi, .ref mbk, .int ent, .ref mnr, .ref mia, .ref min, .ref mas, .ref mpr, .ref mfa, .ref mme, .ref mse])), (mst, .inl (cI, 76, .inl st)), (mnr, .inl (cI, 12, .inl nr)), (mas, .inl (cI, 12, .inl asd)), (mse, .inl (cI, 12, .inl sea))]
set_option maxHeartbeats 4000000 in
set_option maxRecDepth 100000 in
theorem tX9_faultNow (l : Launch) (D : va_G) (cI cZ cM cS : ClassId) (mo mst mpa mim mik mbi mbk mnr mia min mas mpr mfa mme mse : Nat) (deeds : Int32) (sd : Int32) (ent : Int32) (st : (Nat → Int32)) (nr : (Nat → Int32)) (asd : (Nat → Int32)) (sea : (Nat → Int32)) {r : Int32} {nr' : (Nat → Int32)} {asd' : (Nat → Int32)} {sea' : (Nat → Int32)} (hF : fX9_faultNow deeds sd ent st nr asd sea = some (r, nr', asd', sea')) : zCW l yX9_faultNow wsX9_faultNow (zRm 4 98) D (zTy cI cZ cM cS) [.ref mo] (wX9_faultNow cI cZ cM cS mo mst mpa mim mik mbi mbk mnr mia min mas mpr mfa mme mse deeds sd ent st nr asd sea) (wX9_faultNow cI cZ cM cS mo mst mpa mim mik mbi mbk mnr mia min mas mpr mfa mme mse deeds sd ent st nr' asd' sea') (some (.int r)) := by
  unfold fX9_faultNow at hF
  refine zCW_ofi (cc := cX9_faultNow) (maxL := 7) (own := RX9) (by decide) rfl rfl (Nat.le_of_ble_eq_true rfl) (fun p e s m args below meth c Q ls A E hA hK hP hD hRet hS hl => ?_)
  refine zgen (fun H locs hP hS => ?_) hP hS
  have hl : lv_has ls 7 [(0, .ref mo)] := hl
  obtain ⟨hx, hb, hml, hown, hts⟩ := id E
  have inX9 : ∀ w ∈ u_ws RX9 TX9 17, w ∈ wsX9_faultNow := by decide +kernel
  have fl50 := hts (.fieldLink RX9 50 "SplitClassesModel" "searched" "[I") (by decide +kernel)
  have fl7 := hts (.fieldLink RX9 7 "SplitClassesModel" "st" "[I") (by decide +kernel)
  refine lv_aload_n (pc := 0) hx hb dX9_faultNow_0 rfl (lv_at hl 0 rfl) ?_
  refine lv_iconst (v := (0 : Int32)) (pc := 1) hx hb dX9_faultNow_1 (by decide) ?_
  obtain ⟨nr_1, asd_1, sea_1, hC1, hF⟩ := ob3_e hF
  refine zV (pc := 2) (As := [.int (0 : Int32)]) (rest := []) (wr := []) (w2 := (wX9_faultNow cI cZ cM cS mo mst mpa mim mik mbi mbk mnr mia min mas mpr mfa mme mse deeds sd ent st nr_1 asd_1 sea_1)) E (tX9_searches l D cI cZ cM cS mo mst mpa mim mik mbi mbk mnr mia min mas mpr mfa mme mse deeds sd ent st nr asd sea (0 : Int32) hC1) 1 gX9_faultNow_X9_searches rfl rfl rfl (by decide +kernel) ⟨Nat.le_of_ble_eq_true rfl, Nat.le_of_ble_eq_true rfl⟩ hK hP hD hS hA [0, 1, 2, 3, 4] [] [0, 1, 2, 3, 4] (by decide) rfl rfl (by decide) (by decide) rfl (by decide) 0 9 rfl rfl rfl rfl hl.1 rfl (Nat.le_of_ble_eq_true rfl) dX9_faultNow_2 ⟨Nat.zero_le _, Nat.zero_le _⟩ (fun H locs hP hD hS => ?_)
  refine W.eq (g2 := F0 m 5 ls []) rfl ?_
  refine lv_iconst (v := (0 : Int32)) (pc := 5) hx hb dX9_faultNow_5 (by decide) ?_
  refine lv_istore_n (lv' := [(1, .int (0 : Int32)), (0, .ref mo)]) (pc := 6) hx hb dX9_faultNow_6 rfl hl (by decide) rfl (fun ls hl => ?_)
  refine lv_iconst (v := (0 : Int32)) (pc := 7) hx hb dX9_faultNow_7 (by decide) ?_
  refine lv_istore_n (lv' := [(2, .int (0 : Int32)), (1, .int (0 : Int32)), (0, .ref mo)]) (pc := 8) hx hb dX9_faultNow_8 rfl hl (by decide) rfl (fun ls hl => ?_)
  have hL12 := hF
  have lp12 : ∀ (n : Nat) (x2_2 : Int32) (x1_4 : Int32) (H : Heap) (locs : List Loc) (ls : Array Slot), olp (fX9_faultNow_s9 st nr_1 asd_1 sea_1) n (x2_2, x1_4) = some (r, nr', asd', sea') → va_P D vwCl (wX9_faultNow cI cZ cM cS mo mst mpa mim mik mbi mbk mnr mia min mas mpr mfa mme mse deeds sd ent st nr_1 asd_1 sea_1) H → va_D A (wX9_faultNow cI cZ cM cS mo mst mpa mim mik mbi mbk mnr mia min mas mpr mfa mme mse deeds sd ent st nr_1 asd_1 sea_1) → va_S A s.heap H locs → lv_has ls 7 [(2, .int x2_2), (1, .int x1_4), (0, .ref mo)] → W p l e (zRm 4 98) s m args below meth c H locs 0 0 Q (F0 m 9 ls []) := by
    intro n
    induction n with
    | zero => intro x2_2 x1_4 H locs ls hL; exact olp_0 hL
    | succ n ih =>
      intro x2_2 x1_4 H locs ls hL12 hP hD hS hl
      obtain ⟨z, hz12, hL12⟩ := olp_e hL12
      have hz12 : fX9_faultNow_b9 st nr_1 asd_1 sea_1 x2_2 x1_4 = some z := hz12
      unfold fX9_faultNow_b9 at hz12
      refine lv_iload_n (pc := 9) hx hb dX9_faultNow_9 rfl (lv_at hl 0 rfl) ?_
      refine lv_aload_n (pc := 10) hx hb dX9_faultNow_10 rfl (lv_at hl 2 rfl) ?_
      refine va_get (pc := 11) (ci := 9) (C := RX9) (T := TX9) (N := 17) hx hb hts inX9 hown hK hP 0 rfl rfl 0 (by decide) fl7 (fun _ h9 => h9) rfl dX9_faultNow_11 ?_
      refine lv_iconst (v := (0 : Int32)) (pc := 14) hx hb dX9_faultNow_14 (by decide) ?_
      refine z_iald (pc := 15) (k := 0) hx hb hK hP 1 0 rfl rfl (by decide) (by decide) dX9_faultNow_15 ?_
      refine lv_icmp_ge (pc := 16) (tgt := 131) hx hb dX9_faultNow_16 (by decide) (fun hc => ?_) (fun hc => ?_)
      · have hz12 := oif_t hz12 hc
        refine lv_iconst (v := (-1 : Int32)) (pc := 131) hx hb dX9_faultNow_131 (by decide) ?_
        have hE := olp_r hz12 hL12
        cases hE
        exact hRet _ _ _ _ rfl dX9_faultNow_132 hP hD hS
      · have hz12 := oif_f hz12 hc
        refine lv_aload_n (pc := 19) hx hb dX9_faultNow_19 rfl (lv_at hl 2 rfl) ?_
        refine va_get (pc := 20) (ci := 9) (C := RX9) (T := TX9) (N := 17) hx hb hts inX9 hown hK hP 0 rfl rfl 16 (by decide) fl50 (fun _ h9 => h9) rfl dX9_faultNow_20 ?_
        refine lv_iload_n (pc := 23) hx hb dX9_faultNow_23 rfl (lv_at hl 0 rfl) ?_
        obtain ⟨hg13, hz12⟩ := ogd_e hz12
        refine va_iald (pc := 24) hx hb hK hP 4 0 rfl rfl hg13 dX9_faultNow_24 ?_
        refine lv_istore_n (lv' := [(3, .int (sea_1 (Int32.toNatClampNeg x2_2))), (2, .int x2_2), (1, .int x1_4), (0, .ref mo)]) (pc := 25) hx hb dX9_faultNow_25 rfl hl (by decide) rfl (fun ls hl => ?_)
        refine lv_aload_n (pc := 26) hx hb dX9_faultNow_26 rfl (lv_at hl 3 rfl) ?_
        refine va_get (pc := 27) (ci := 9) (C := RX9) (T := TX9) (N := 17) hx hb hts inX9 hown hK hP 0 rfl rfl 0 (by decide) fl7 (fun _ h9 => h9) rfl dX9_faultNow_27 ?_
        refine lv_bipush (v := (16 : Int32)) (pc := 30) hx hb dX9_faultNow_30 (by decide) ?_
        refine lv_iload_n (pc := 32) hx hb dX9_faultNow_32 rfl (lv_at hl 0 rfl) ?_
        refine lv_iadd (pc := 33) hx hb dX9_faultNow_33 ?_
        obtain ⟨hg14, hz12⟩ := ogd_e hz12
        refine va_iald (pc := 34) hx hb hK hP 1 0 rfl rfl hg14 dX9_faultNow_34 ?_
        refine lv_iload_n (pc := 35) hx hb dX9_faultNow_35 rfl (lv_at hl 2 rfl) ?_
        refine lv_iand (pc := 36) hx hb dX9_faultNow_36 ?_
        refine lv_topi (fun x4_2 ex4_2 => ?_)
        have hz12 := onm_e hz12 x4_2 ex4_2
        refine lv_istore (lv' := [(4, .int x4_2), (3, .int (sea_1 (Int32.toNatClampNeg x2_2))), (2, .int x2_2), (1, .int x1_4), (0, .ref mo)]) (pc := 37) hx hb dX9_faultNow_37 hl (by decide) rfl (fun ls hl => ?_)
        refine lv_iconst (v := (-1 : Int32)) (pc := 39) hx hb dX9_faultNow_39 (by decide) ?_
        refine lv_istore (lv' := [(5, .int (-1 : Int32)), (4, .int x4_2), (3, .int (sea_1 (Int32.toNatClampNeg x2_2))), (2, .int x2_2), (1, .int x1_4), (0, .ref mo)]) (pc := 40) hx hb dX9_faultNow_40 hl (by decide) rfl (fun ls hl => ?_)
        refine lv_iconst (v := (0 : Int32)) (pc := 42) hx hb dX9_faultNow_42 (by decide) ?_
        refine lv_istore (lv' := [(6, .int (0 : Int32)), (5, .int (-1 : Int32)), (4, .int x4_2), (3, .int (sea_1 (Int32.toNatClampNeg x2_2))), (2, .int x2_2), (1, .int x1_4), (0, .ref mo)]) (pc := 43) hx hb dX9_faultNow_43 hl (by decide) rfl (fun ls hl => ?_)
        obtain ⟨x5_6, hL18, hz12⟩ := ob1_e hz12
        have ex18 : ∀ (H : Heap) (locs : List Loc) (ls : Array Slot), va_P D vwCl (wX9_faultNow cI cZ cM cS mo mst mpa mim mik mbi mbk mnr mia min mas mpr mfa mme mse deeds sd ent st nr_1 asd_1 sea_1) H → va_D A (wX9_faultNow cI cZ cM cS mo mst mpa mim mik mbi mbk mnr mia min mas mpr mfa mme mse deeds sd ent st nr_1 asd_1 sea_1) → va_S A s.heap H locs → lv_has ls 7 [(5, .int x5_6), (4, .int x4_2), (3, .int (sea_1 (Int32.toNatClampNeg x2_2))), (2, .int x2_2), (1, .int x1_4), (0, .ref mo)] → W p l e (zRm 4 98) s m args below meth c H locs 0 0 Q (F0 m 86 ls []) := by
          intro H locs ls hP hD hS hl
          refine lv_iload (pc := 86) hx hb dX9_faultNow_86 (lv_at hl 0 rfl) ?_
          refine lv_iconst (v := (-1 : Int32)) (pc := 88) hx hb dX9_faultNow_88 (by decide) ?_
          refine lv_icmp_eq (pc := 89) (tgt := 119) hx hb dX9_faultNow_89 (by decide) (fun hc => ?_) (fun hc => ?_)
          · have hz12 := oif_t hz12 hc
            refine lv_iload_n (pc := 119) hx hb dX9_faultNow_119 rfl (lv_at hl 4 rfl) ?_
            refine lv_iconst (v := (1 : Int32)) (pc := 120) hx hb dX9_faultNow_120 (by decide) ?_
            refine lv_iload_n (pc := 121) hx hb dX9_faultNow_121 rfl (lv_at hl 2 rfl) ?_
            refine lv_ishl (pc := 122) hx hb dX9_faultNow_122 ?_
            refine lv_ior (pc := 123) hx hb dX9_faultNow_123 ?_
            refine lv_topi (fun x1_5 ex1_5 => ?_)
            have hz12 := onm_e hz12 x1_5 ex1_5
            refine lv_istore_n (lv' := [(1, .int x1_5), (5, .int x5_6), (4, .int x4_2), (3, .int (sea_1 (Int32.toNatClampNeg x2_2))), (2, .int x2_2), (0, .ref mo)]) (pc := 124) hx hb dX9_faultNow_124 rfl hl (by decide) rfl (fun ls hl => ?_)
            refine lv_iinc (v := (x2_2 + (1 : Int32))) (lv' := [(2, .int (x2_2 + (1 : Int32))), (1, .int x1_5), (5, .int x5_6), (4, .int x4_2), (3, .int (sea_1 (Int32.toNatClampNeg x2_2))), (0, .ref mo)]) (pc := 125) hx hb dX9_faultNow_125 hl (k := 4) rfl rfl (by decide) rfl (fun ls hl => ?_)
            refine lv_goto (pc := 128) (tgt := 9) hx hb dX9_faultNow_128 (by decide) ?_
            exact ih _ _ _ _ _ (olp_l hz12 hL12) hP hD hS (lv_sub hl [0, 1, 5] rfl)
          · have hz12 := oif_f hz12 hc
            refine lv_iload (pc := 92) hx hb dX9_faultNow_92 (lv_at hl 1 rfl) ?_
            refine lv_iconst (v := (1 : Int32)) (pc := 94) hx hb dX9_faultNow_94 (by decide) ?_
            refine lv_iload (pc := 95) hx hb dX9_faultNow_95 (lv_at hl 0 rfl) ?_
            refine lv_ishl (pc := 97) hx hb dX9_faultNow_97 ?_
            refine lv_iconst (v := (-1 : Int32)) (pc := 98) hx hb dX9_faultNow_98 (by decide) ?_
            refine lv_ixor (pc := 99) hx hb dX9_faultNow_99 ?_
            refine lv_iand (pc := 100) hx hb dX9_faultNow_100 ?_
            refine lv_aload_n (pc := 101) hx hb dX9_faultNow_101 rfl (lv_at hl 5 rfl) ?_
            refine va_get (pc := 102) (ci := 9) (C := RX9) (T := TX9) (N := 17) hx hb hts inX9 hown hK hP 0 rfl rfl 0 (by decide) fl7 (fun _ h9 => h9) rfl dX9_faultNow_102 ?_
            refine lv_bipush (v := (16 : Int32)) (pc := 105) hx hb dX9_faultNow_105 (by decide) ?_
            refine lv_iload (pc := 107) hx hb dX9_faultNow_107 (lv_at hl 0 rfl) ?_
            refine lv_iadd (pc := 109) hx hb dX9_faultNow_109 ?_
            obtain ⟨hg22, hz12⟩ := ogd_e hz12
            refine va_iald (pc := 110) hx hb hK hP 1 0 rfl rfl hg22 dX9_faultNow_110 ?_
            refine lv_iconst (v := (-1 : Int32)) (pc := 111) hx hb dX9_faultNow_111 (by decide) ?_
            refine lv_ixor (pc := 112) hx hb dX9_faultNow_112 ?_
            refine lv_iand (pc := 113) hx hb dX9_faultNow_113 ?_
            refine lv_if_eq (pc := 114) (tgt := 119) hx hb dX9_faultNow_114 (by decide) (fun hc => ?_) (fun hc => ?_)
            · have hz12 := oif_t hz12 hc
              refine lv_iload_n (pc := 119) hx hb dX9_faultNow_119 rfl (lv_at hl 4 rfl) ?_
              refine lv_iconst (v := (1 : Int32)) (pc := 120) hx hb dX9_faultNow_120 (by decide) ?_
              refine lv_iload_n (pc := 121) hx hb dX9_faultNow_121 rfl (lv_at hl 2 rfl) ?_
              refine lv_ishl (pc := 122) hx hb dX9_faultNow_122 ?_
              refine lv_ior (pc := 123) hx hb dX9_faultNow_123 ?_
              refine lv_topi (fun x1_6 ex1_6 => ?_)
              have hz12 := onm_e hz12 x1_6 ex1_6
              refine lv_istore_n (lv' := [(1, .int x1_6), (5, .int x5_6), (4, .int x4_2), (3, .int (sea_1 (Int32.toNatClampNeg x2_2))), (2, .int x2_2), (0, .ref mo)]) (pc := 124) hx hb dX9_faultNow_124 rfl hl (by decide) rfl (fun ls hl => ?_)
              refine lv_iinc (v := (x2_2 + (1 : Int32))) (lv' := [(2, .int (x2_2 + (1 : Int32))), (1, .int x1_6), (5, .int x5_6), (4, .int x4_2), (3, .int (sea_1 (Int32.toNatClampNeg x2_2))), (0, .ref mo)]) (pc := 125) hx hb dX9_faultNow_125 hl (k := 4) rfl rfl (by decide) rfl (fun ls hl => ?_)
              refine lv_goto (pc := 128) (tgt := 9) hx hb dX9_faultNow_128 (by decide) ?_
              exact ih _ _ _ _ _ (olp_l hz12 hL12) hP hD hS (lv_sub hl [0, 1, 5] rfl)
            · have hz12 := oif_f hz12 hc
              refine lv_iload_n (pc := 117) hx hb dX9_faultNow_117 rfl (lv_at hl 2 rfl) ?_
              have hE := olp_r hz12 hL12
              cases hE
              exact hRet _ _ _ _ rfl dX9_faultNow_118 hP hD hS
        have lp18 : ∀ (n : Nat) (x6_4 : Int32) (x5_5 : Int32) (H : Heap) (locs : List Loc) (ls : Array Slot), olp (fX9_faultNow_s45 x2_2 x4_2 sea_1) n (x6_4, x5_5) = some x5_6 → va_P D vwCl (wX9_faultNow cI cZ cM cS mo mst mpa mim mik mbi mbk mnr mia min mas mpr mfa mme mse deeds sd ent st nr_1 asd_1 sea_1) H → va_D A (wX9_faultNow cI cZ cM cS mo mst mpa mim mik mbi mbk mnr mia min mas mpr mfa mme mse deeds sd ent st nr_1 asd_1 sea_1) → va_S A s.heap H locs → lv_has ls 7 [(6, .int x6_4), (5, .int x5_5), (4, .int x4_2), (3, .int (sea_1 (Int32.toNatClampNeg x2_2))), (2, .int x2_2), (1, .int x1_4), (0, .ref mo)] → W p l e (zRm 4 98) s m args below meth c H locs 0 0 Q (F0 m 45 ls []) := by
          intro n
          induction n with
          | zero => intro x6_4 x5_5 H locs ls hL; exact olp_0 hL
          | succ n ih =>
            intro x6_4 x5_5 H locs ls hL18 hP hD hS hl
            obtain ⟨z, hz18, hL18⟩ := olp_e hL18
            have hz18 : fX9_faultNow_b45 x2_2 x4_2 sea_1 x6_4 x5_5 = some z := hz18
            unfold fX9_faultNow_b45 at hz18
            refine lv_iload (pc := 45) hx hb dX9_faultNow_45 (lv_at hl 0 rfl) ?_
            refine lv_iload_n (pc := 47) hx hb dX9_faultNow_47 rfl (lv_at hl 4 rfl) ?_
            refine lv_icmp_ge (pc := 48) (tgt := 86) hx hb dX9_faultNow_48 (by decide) (fun hc => ?_) (fun hc => ?_)
            · have hz18 := oif_t hz18 hc
              have hE := olp_r hz18 hL18
              cases hE
              exact ex18 _ _ _ hP hD hS (lv_sub hl [1, 2, 3, 4, 5, 6] rfl)
            · have hz18 := oif_f hz18 hc
              refine lv_iload (pc := 51) hx hb dX9_faultNow_51 (lv_at hl 2 rfl) ?_
              refine lv_aload_n (pc := 53) hx hb dX9_faultNow_53 rfl (lv_at hl 6 rfl) ?_
              refine va_get (pc := 54) (ci := 9) (C := RX9) (T := TX9) (N := 17) hx hb hts inX9 hown hK hP 0 rfl rfl 16 (by decide) fl50 (fun _ h9 => h9) rfl dX9_faultNow_54 ?_
              refine lv_iload (pc := 57) hx hb dX9_faultNow_57 (lv_at hl 0 rfl) ?_
              obtain ⟨hg19, hz18⟩ := ogd_e hz18
              refine va_iald (pc := 59) hx hb hK hP 4 0 rfl rfl hg19 dX9_faultNow_59 ?_
              obtain ⟨r_4, hC20, hz18⟩ := ob1_e hz18
              refine zSr (pc := 60) (As := [.int x4_2, .int (sea_1 (Int32.toNatClampNeg x6_4))]) (rest := []) E (tX9_has l D cI cZ cM cS x4_2 (sea_1 (Int32.toNatClampNeg x6_4)) hC20) 2 gX9_faultNow_X9_has rfl rfl rfl (by decide +kernel) ⟨Nat.le_of_ble_eq_true rfl, Nat.le_of_ble_eq_true rfl⟩ hK hP [] rfl rfl hl.1 rfl (Nat.le_of_ble_eq_true rfl) dX9_faultNow_60 ⟨Nat.zero_le _, Nat.zero_le _⟩ ?_
              refine lv_if_eq (pc := 63) (tgt := 76) hx hb dX9_faultNow_63 (by decide) (fun hc => ?_) (fun hc => ?_)
              · have hz18 := oif_t hz18 hc
                refine lv_iload (pc := 76) hx hb dX9_faultNow_76 (lv_at hl 1 rfl) ?_
                refine lv_istore (lv' := [(5, .int x5_5), (6, .int x6_4), (4, .int x4_2), (3, .int (sea_1 (Int32.toNatClampNeg x2_2))), (2, .int x2_2), (1, .int x1_4), (0, .ref mo)]) (pc := 78) hx hb dX9_faultNow_78 hl (by decide) rfl (fun ls hl => ?_)
                refine lv_iinc (v := (x6_4 + (1 : Int32))) (lv' := [(6, .int (x6_4 + (1 : Int32))), (5, .int x5_5), (4, .int x4_2), (3, .int (sea_1 (Int32.toNatClampNeg x2_2))), (2, .int x2_2), (1, .int x1_4), (0, .ref mo)]) (pc := 80) hx hb dX9_faultNow_80 hl (k := 1) rfl rfl (by decide) rfl (fun ls hl => ?_)
                refine lv_goto (pc := 83) (tgt := 45) hx hb dX9_faultNow_83 (by decide) ?_
                exact ih _ _ _ _ _ (olp_l hz18 hL18) hP hD hS (lv_sub hl [0, 1, 2, 3, 4, 5, 6] rfl)
              · have hz18 := oif_f hz18 hc
                refine lv_aload_n (pc := 66) hx hb dX9_faultNow_66 rfl (lv_at hl 6 rfl) ?_
                refine va_get (pc := 67) (ci := 9) (C := RX9) (T := TX9) (N := 17) hx hb hts inX9 hown hK hP 0 rfl rfl 16 (by decide) fl50 (fun _ h9 => h9) rfl dX9_faultNow_67 ?_
                refine lv_iload (pc := 70) hx hb dX9_faultNow_70 (lv_at hl 0 rfl) ?_
                obtain ⟨hg21, hz18⟩ := ogd_e hz18
                refine va_iald (pc := 72) hx hb hK hP 4 0 rfl rfl hg21 dX9_faultNow_72 ?_
                refine lv_goto (pc := 73) (tgt := 78) hx hb dX9_faultNow_73 (by decide) ?_
                refine lv_istore (lv' := [(5, .int (sea_1 (Int32.toNatClampNeg x6_4))), (6, .int x6_4), (4, .int x4_2), (3, .int (sea_1 (Int32.toNatClampNeg x2_2))), (2, .int x2_2), (1, .int x1_4), (0, .ref mo)]) (pc := 78) hx hb dX9_faultNow_78 hl (by decide) rfl (fun ls hl => ?_)
                refine lv_iinc (v := (x6_4 + (1 : Int32))) (lv' := [(6, .int (x6_4 + (1 : Int32))), (5, .int (sea_1 (Int32.toNatClampNeg x6_4))), (4, .int x4_2), (3, .int (sea_1 (Int32.toNatClampNeg x2_2))), (2, .int x2_2), (1, .int x1_4), (0, .ref mo)]) (pc := 80) hx hb dX9_faultNow_80 hl (k := 1) rfl rfl (by decide) rfl (fun ls hl => ?_)
                refine lv_goto (pc := 83) (tgt := 45) hx hb dX9_faultNow_83 (by decide) ?_
                exact ih _ _ _ _ _ (olp_l hz18 hL18) hP hD hS (lv_sub hl [0, 1, 2, 3, 4, 5, 6] rfl)
        exact lp18 oFu _ _ _ _ _ hL18 hP hD hS (lv_sub hl [0, 1, 2, 3, 4, 5, 6] rfl)
  exact lp12 oFu _ _ _ _ _ hL12 hP hD hS (lv_sub hl [0, 1, 2] rfl)
def fX9_cliqueNow_b31 (st : (Nat → Int32)) (x2_2 : Int32) (x4_4 : Int32) (x3_5 : Int32) : Option ((Int32 × Int32) ⊕ (Int32)) := (if (st 0) ≤ x4_4 then (some (.inr x3_5)) else (if x3_5 = (0 : Int32) then (some (.inr x3_5)) else (ob1 (fX9_has x2_2 x4_4) (fun r_7 => (if r_7 = (0 : Int32) then (some (.inl ((x4_4 + (1 : Int32)), (1 : Int32)))) else (ogd ((16 : Int32) + x4_4) 76 (if ((x2_2 &&& (((1 : Int32) <<< (x4_4 &&& 31)) ^^^ (-1 : Int32))) &&& ((st (Int32.toNatClampNeg ((16 : Int32) + x4_4))) ^^^ (-1 : Int32))) = (0 : Int32) then (some (.inl ((x4_4 + (1 : Int32)), (1 : Int32)))) else (some (.inl ((x4_4 + (1 : Int32)), (0 : Int32)))))))))))
def fX9_cliqueNow_s31 (st : (Nat → Int32)) (x2_2 : Int32) (sg_ : Int32 × Int32) : Option ((Int32 × Int32) ⊕ (Int32)) := fX9_cliqueNow_b31 st x2_2 sg_.1 sg_.2
def fX9_cliqueNow_b14 (st : (Nat → Int32)) (x2_2 : Int32) (x1_2 : Int32) : Option ((Int32 × Int32) ⊕ (Int32)) := (if ((1 : Int32) <<< ((st 0) &&& 31)) ≤ x2_2 then (some (.inr x1_2)) else (ob1 (olp (fX9_cliqueNow_s31 st x2_2) oFu ((0 : Int32), (1 : Int32))) (fun x3_6 => (if x3_6 = (0 : Int32) then (some (.inl ((x2_2 + (1 : Int32)), x1_2))) else (ob1 (fX9_sizeOf x2_2) (fun r_8 => (if r_8 ≤ x1_2 then (some (.inl ((x2_2 + (1 : Int32)), x1_2))) else (ob1 (fX9_sizeOf x2_2) (fun r_9 => (some (.inl ((x2_2 + (1 : Int32)), r_9))))))))))))
def fX9_cliqueNow_s14 (st : (Nat → Int32)) (sg_ : Int32 × Int32) : Option ((Int32 × Int32) ⊕ (Int32)) := fX9_cliqueNow_b14 st sg_.1 sg_.2
def fX9_cliqueNow (deeds : Int32) (sd : Int32) (ent : Int32) (st : (Nat → Int32)) (nr : (Nat → Int32)) (asd : (Nat → Int32)) (sea : (Nat → Int32)) : Option (Int32 × (Nat → Int32) × (Nat → Int32) × (Nat → Int32)) := (ob4 (fX9_faultNow deeds sd ent st nr asd sea) (fun r_1 nr_1 asd_1 sea_1 => (if r_1 = (-1 : Int32) then (ob1 (olp (fX9_cliqueNow_s14 st) oFu ((0 : Int32), (0 : Int32))) (fun x1_3 => (some (x1_3, nr_1, asd_1, sea_1)))) else (some ((-1 : Int32), nr_1, asd_1, sea_1)))))
abbrev wX9_cliqueNow (cI cZ cM cS : ClassId) (mo mst mpa mim mik mbi mbk mnr mia min mas mpr mfa mme mse : Nat) (deeds : Int32) (sd : Int32) (ent : Int32) (st : (Nat → Int32)) (nr : (Nat → Int32)) (asd : (Nat → Int32)) (sea : (Nat → Int32)) : va_W := [(mo, .inr (9, [.ref mst, .ref mpa, .int deeds, .ref mim, .ref mik, .int sd, .ref mbi, .ref mbk, .int ent, .ref mnr, .ref mia, .ref min, .ref mas, .ref mpr, .ref mfa, .ref mme, .ref mse])), (mst, .inl (cI, 76, .inl st)), (mnr, .inl (cI, 12, .inl nr)), (mas, .inl (cI, 12, .inl asd)), (mse, .inl (cI, 12, .inl sea))]
set_option maxHeartbeats 4000000 in
set_option maxRecDepth 100000 in
theorem tX9_cliqueNow (l : Launch) (D : va_G) (cI cZ cM cS : ClassId) (mo mst mpa mim mik mbi mbk mnr mia min mas mpr mfa mme mse : Nat) (deeds : Int32) (sd : Int32) (ent : Int32) (st : (Nat → Int32)) (nr : (Nat → Int32)) (asd : (Nat → Int32)) (sea : (Nat → Int32)) {r : Int32} {nr' : (Nat → Int32)} {asd' : (Nat → Int32)} {sea' : (Nat → Int32)} (hF : fX9_cliqueNow deeds sd ent st nr asd sea = some (r, nr', asd', sea')) : zCW l yX9_cliqueNow wsX9_cliqueNow (zRm 5 124) D (zTy cI cZ cM cS) [.ref mo] (wX9_cliqueNow cI cZ cM cS mo mst mpa mim mik mbi mbk mnr mia min mas mpr mfa mme mse deeds sd ent st nr asd sea) (wX9_cliqueNow cI cZ cM cS mo mst mpa mim mik mbi mbk mnr mia min mas mpr mfa mme mse deeds sd ent st nr' asd' sea') (some (.int r)) := by
  unfold fX9_cliqueNow at hF
  refine zCW_ofi (cc := cX9_cliqueNow) (maxL := 5) (own := RX9) (by decide) rfl rfl (Nat.le_of_ble_eq_true rfl) (fun p e s m args below meth c Q ls A E hA hK hP hD hRet hS hl => ?_)
  refine zgen (fun H locs hP hS => ?_) hP hS
  have hl : lv_has ls 5 [(0, .ref mo)] := hl
  obtain ⟨hx, hb, hml, hown, hts⟩ := id E
  have inX9 : ∀ w ∈ u_ws RX9 TX9 17, w ∈ wsX9_cliqueNow := by decide +kernel
  have fl7 := hts (.fieldLink RX9 7 "SplitClassesModel" "st" "[I") (by decide +kernel)
  refine lv_aload_n (pc := 0) hx hb dX9_cliqueNow_0 rfl (lv_at hl 0 rfl) ?_
  obtain ⟨r_1, nr_1, asd_1, sea_1, hC1, hF⟩ := ob4_e hF
  refine zV (pc := 1) (As := []) (rest := []) (wr := []) (w2 := (wX9_cliqueNow cI cZ cM cS mo mst mpa mim mik mbi mbk mnr mia min mas mpr mfa mme mse deeds sd ent st nr_1 asd_1 sea_1)) E (tX9_faultNow l D cI cZ cM cS mo mst mpa mim mik mbi mbk mnr mia min mas mpr mfa mme mse deeds sd ent st nr asd sea hC1) 0 gX9_cliqueNow_X9_faultNow rfl rfl rfl (by decide +kernel) ⟨Nat.le_of_ble_eq_true rfl, Nat.le_of_ble_eq_true rfl⟩ hK hP hD hS hA [0, 1, 2, 3, 4] [] [0, 1, 2, 3, 4] (by decide) rfl rfl (by decide) (by decide) rfl (by decide) 0 9 rfl rfl rfl rfl hl.1 rfl (Nat.le_of_ble_eq_true rfl) dX9_cliqueNow_1 ⟨Nat.zero_le _, Nat.zero_le _⟩ (fun H locs hP hD hS => ?_)
  refine W.eq (g2 := F0 m 4 ls [.int r_1]) rfl ?_
  refine lv_iconst (v := (-1 : Int32)) (pc := 4) hx hb dX9_cliqueNow_4 (by decide) ?_
  refine lv_icmp_eq (pc := 5) (tgt := 10) hx hb dX9_cliqueNow_5 (by decide) (fun hc => ?_) (fun hc => ?_)
  · have hF := oif_t hF hc
    refine lv_iconst (v := (0 : Int32)) (pc := 10) hx hb dX9_cliqueNow_10 (by decide) ?_
    refine lv_istore_n (lv' := [(1, .int (0 : Int32)), (0, .ref mo)]) (pc := 11) hx hb dX9_cliqueNow_11 rfl hl (by decide) rfl (fun ls hl => ?_)
    refine lv_iconst (v := (0 : Int32)) (pc := 12) hx hb dX9_cliqueNow_12 (by decide) ?_
    refine lv_istore_n (lv' := [(2, .int (0 : Int32)), (1, .int (0 : Int32)), (0, .ref mo)]) (pc := 13) hx hb dX9_cliqueNow_13 rfl hl (by decide) rfl (fun ls hl => ?_)
    obtain ⟨x1_3, hL9, hF⟩ := ob1_e hF
    have ex9 : ∀ (H : Heap) (locs : List Loc) (ls : Array Slot), va_P D vwCl (wX9_cliqueNow cI cZ cM cS mo mst mpa mim mik mbi mbk mnr mia min mas mpr mfa mme mse deeds sd ent st nr_1 asd_1 sea_1) H → va_D A (wX9_cliqueNow cI cZ cM cS mo mst mpa mim mik mbi mbk mnr mia min mas mpr mfa mme mse deeds sd ent st nr_1 asd_1 sea_1) → va_S A s.heap H locs → lv_has ls 5 [(1, .int x1_3)] → W p l e (zRm 5 124) s m args below meth c H locs 0 0 Q (F0 m 118 ls []) := by
      intro H locs ls hP hD hS hl
      refine lv_iload_n (pc := 118) hx hb dX9_cliqueNow_118 rfl (lv_at hl 0 rfl) ?_
      cases hF
      exact hRet _ _ _ _ rfl dX9_cliqueNow_119 hP hD hS
    have lp9 : ∀ (n : Nat) (x2_2 : Int32) (x1_2 : Int32) (H : Heap) (locs : List Loc) (ls : Array Slot), olp (fX9_cliqueNow_s14 st) n (x2_2, x1_2) = some x1_3 → va_P D vwCl (wX9_cliqueNow cI cZ cM cS mo mst mpa mim mik mbi mbk mnr mia min mas mpr mfa mme mse deeds sd ent st nr_1 asd_1 sea_1) H → va_D A (wX9_cliqueNow cI cZ cM cS mo mst mpa mim mik mbi mbk mnr mia min mas mpr mfa mme mse deeds sd ent st nr_1 asd_1 sea_1) → va_S A s.heap H locs → lv_has ls 5 [(2, .int x2_2), (1, .int x1_2), (0, .ref mo)] → W p l e (zRm 5 124) s m args below meth c H locs 0 0 Q (F0 m 14 ls []) := by
      intro n
      induction n with
      | zero => intro x2_2 x1_2 H locs ls hL; exact olp_0 hL
      | succ n ih =>
        intro x2_2 x1_2 H locs ls hL9 hP hD hS hl
        obtain ⟨z, hz9, hL9⟩ := olp_e hL9
        have hz9 : fX9_cliqueNow_b14 st x2_2 x1_2 = some z := hz9
        unfold fX9_cliqueNow_b14 at hz9
        refine lv_iload_n (pc := 14) hx hb dX9_cliqueNow_14 rfl (lv_at hl 0 rfl) ?_
        refine lv_iconst (v := (1 : Int32)) (pc := 15) hx hb dX9_cliqueNow_15 (by decide) ?_
        refine lv_aload_n (pc := 16) hx hb dX9_cliqueNow_16 rfl (lv_at hl 2 rfl) ?_
        refine va_get (pc := 17) (ci := 9) (C := RX9) (T := TX9) (N := 17) hx hb hts inX9 hown hK hP 0 rfl rfl 0 (by decide) fl7 (fun _ h9 => h9) rfl dX9_cliqueNow_17 ?_
        refine lv_iconst (v := (0 : Int32)) (pc := 20) hx hb dX9_cliqueNow_20 (by decide) ?_
        refine z_iald (pc := 21) (k := 0) hx hb hK hP 1 0 rfl rfl (by decide) (by decide) dX9_cliqueNow_21 ?_
        refine lv_ishl (pc := 22) hx hb dX9_cliqueNow_22 ?_
        refine lv_icmp_ge (pc := 23) (tgt := 118) hx hb dX9_cliqueNow_23 (by decide) (fun hc => ?_) (fun hc => ?_)
        · have hz9 := oif_t hz9 hc
          have hE := olp_r hz9 hL9
          cases hE
          exact ex9 _ _ _ hP hD hS (lv_sub hl [1] rfl)
        · have hz9 := oif_f hz9 hc
          refine lv_iconst (v := (1 : Int32)) (pc := 26) hx hb dX9_cliqueNow_26 (by decide) ?_
          refine lv_istore_n (lv' := [(3, .int (1 : Int32)), (2, .int x2_2), (1, .int x1_2), (0, .ref mo)]) (pc := 27) hx hb dX9_cliqueNow_27 rfl hl (by decide) rfl (fun ls hl => ?_)
          refine lv_iconst (v := (0 : Int32)) (pc := 28) hx hb dX9_cliqueNow_28 (by decide) ?_
          refine lv_istore (lv' := [(4, .int (0 : Int32)), (3, .int (1 : Int32)), (2, .int x2_2), (1, .int x1_2), (0, .ref mo)]) (pc := 29) hx hb dX9_cliqueNow_29 hl (by decide) rfl (fun ls hl => ?_)
          obtain ⟨x3_6, hL12, hz9⟩ := ob1_e hz9
          have ex12 : ∀ (H : Heap) (locs : List Loc) (ls : Array Slot), va_P D vwCl (wX9_cliqueNow cI cZ cM cS mo mst mpa mim mik mbi mbk mnr mia min mas mpr mfa mme mse deeds sd ent st nr_1 asd_1 sea_1) H → va_D A (wX9_cliqueNow cI cZ cM cS mo mst mpa mim mik mbi mbk mnr mia min mas mpr mfa mme mse deeds sd ent st nr_1 asd_1 sea_1) → va_S A s.heap H locs → lv_has ls 5 [(3, .int x3_6), (2, .int x2_2), (1, .int x1_2), (0, .ref mo)] → W p l e (zRm 5 124) s m args below meth c H locs 0 0 Q (F0 m 91 ls []) := by
            intro H locs ls hP hD hS hl
            refine lv_iload_n (pc := 91) hx hb dX9_cliqueNow_91 rfl (lv_at hl 0 rfl) ?_
            refine lv_if_eq (pc := 92) (tgt := 110) hx hb dX9_cliqueNow_92 (by decide) (fun hc => ?_) (fun hc => ?_)
            · have hz9 := oif_t hz9 hc
              refine lv_iload_n (pc := 110) hx hb dX9_cliqueNow_110 rfl (lv_at hl 2 rfl) ?_
              refine lv_istore_n (lv' := [(1, .int x1_2), (3, .int x3_6), (2, .int x2_2), (0, .ref mo)]) (pc := 111) hx hb dX9_cliqueNow_111 rfl hl (by decide) rfl (fun ls hl => ?_)
              refine lv_iinc (v := (x2_2 + (1 : Int32))) (lv' := [(2, .int (x2_2 + (1 : Int32))), (1, .int x1_2), (3, .int x3_6), (0, .ref mo)]) (pc := 112) hx hb dX9_cliqueNow_112 hl (k := 2) rfl rfl (by decide) rfl (fun ls hl => ?_)
              refine lv_goto (pc := 115) (tgt := 14) hx hb dX9_cliqueNow_115 (by decide) ?_
              exact ih _ _ _ _ _ (olp_l hz9 hL9) hP hD hS (lv_sub hl [0, 1, 3] rfl)
            · have hz9 := oif_f hz9 hc
              refine lv_iload_n (pc := 95) hx hb dX9_cliqueNow_95 rfl (lv_at hl 1 rfl) ?_
              obtain ⟨r_8, hC15, hz9⟩ := ob1_e hz9
              refine zSr (pc := 96) (As := [.int x2_2]) (rest := []) E (tX9_sizeOf l D cI cZ cM cS x2_2 hC15) 1 gX9_cliqueNow_X9_sizeOf rfl rfl rfl (by decide +kernel) ⟨Nat.le_of_ble_eq_true rfl, Nat.le_of_ble_eq_true rfl⟩ hK hP [] rfl rfl hl.1 rfl (Nat.le_of_ble_eq_true rfl) dX9_cliqueNow_96 ⟨Nat.zero_le _, Nat.zero_le _⟩ ?_
              refine lv_iload_n (pc := 99) hx hb dX9_cliqueNow_99 rfl (lv_at hl 2 rfl) ?_
              refine lv_icmp_le (pc := 100) (tgt := 110) hx hb dX9_cliqueNow_100 (by decide) (fun hc => ?_) (fun hc => ?_)
              · have hz9 := oif_t hz9 hc
                refine lv_iload_n (pc := 110) hx hb dX9_cliqueNow_110 rfl (lv_at hl 2 rfl) ?_
                refine lv_istore_n (lv' := [(1, .int x1_2), (3, .int x3_6), (2, .int x2_2), (0, .ref mo)]) (pc := 111) hx hb dX9_cliqueNow_111 rfl hl (by decide) rfl (fun ls hl => ?_)
                refine lv_iinc (v := (x2_2 + (1 : Int32))) (lv' := [(2, .int (x2_2 + (1 : Int32))), (1, .int x1_2), (3, .int x3_6), (0, .ref mo)]) (pc := 112) hx hb dX9_cliqueNow_112 hl (k := 2) rfl rfl (by decide) rfl (fun ls hl => ?_)
                refine lv_goto (pc := 115) (tgt := 14) hx hb dX9_cliqueNow_115 (by decide) ?_
                exact ih _ _ _ _ _ (olp_l hz9 hL9) hP hD hS (lv_sub hl [0, 1, 3] rfl)
              · have hz9 := oif_f hz9 hc
                refine lv_iload_n (pc := 103) hx hb dX9_cliqueNow_103 rfl (lv_at hl 1 rfl) ?_
                obtain ⟨r_9, hC16, hz9⟩ := ob1_e hz9
                refine zSr (pc := 104) (As := [.int x2_2]) (rest := []) E (tX9_sizeOf l D cI cZ cM cS x2_2 hC16) 1 gX9_cliqueNow_X9_sizeOf rfl rfl rfl (by decide +kernel) ⟨Nat.le_of_ble_eq_true rfl, Nat.le_of_ble_eq_true rfl⟩ hK hP [] rfl rfl hl.1 rfl (Nat.le_of_ble_eq_true rfl) dX9_cliqueNow_104 ⟨Nat.zero_le _, Nat.zero_le _⟩ ?_
                refine lv_goto (pc := 107) (tgt := 111) hx hb dX9_cliqueNow_107 (by decide) ?_
                refine lv_istore_n (lv' := [(1, .int r_9), (3, .int x3_6), (2, .int x2_2), (0, .ref mo)]) (pc := 111) hx hb dX9_cliqueNow_111 rfl hl (by decide) rfl (fun ls hl => ?_)
                refine lv_iinc (v := (x2_2 + (1 : Int32))) (lv' := [(2, .int (x2_2 + (1 : Int32))), (1, .int r_9), (3, .int x3_6), (0, .ref mo)]) (pc := 112) hx hb dX9_cliqueNow_112 hl (k := 2) rfl rfl (by decide) rfl (fun ls hl => ?_)
                refine lv_goto (pc := 115) (tgt := 14) hx hb dX9_cliqueNow_115 (by decide) ?_
                exact ih _ _ _ _ _ (olp_l hz9 hL9) hP hD hS (lv_sub hl [0, 1, 3] rfl)
          have lp12 : ∀ (n : Nat) (x4_4 : Int32) (x3_5 : Int32) (H : Heap) (locs : List Loc) (ls : Array Slot), olp (fX9_cliqueNow_s31 st x2_2) n (x4_4, x3_5) = some x3_6 → va_P D vwCl (wX9_cliqueNow cI cZ cM cS mo mst mpa mim mik mbi mbk mnr mia min mas mpr mfa mme mse deeds sd ent st nr_1 asd_1 sea_1) H → va_D A (wX9_cliqueNow cI cZ cM cS mo mst mpa mim mik mbi mbk mnr mia min mas mpr mfa mme mse deeds sd ent st nr_1 asd_1 sea_1) → va_S A s.heap H locs → lv_has ls 5 [(4, .int x4_4), (3, .int x3_5), (2, .int x2_2), (1, .int x1_2), (0, .ref mo)] → W p l e (zRm 5 124) s m args below meth c H locs 0 0 Q (F0 m 31 ls []) := by
            intro n
            induction n with
            | zero => intro x4_4 x3_5 H locs ls hL; exact olp_0 hL
            | succ n ih =>
              intro x4_4 x3_5 H locs ls hL12 hP hD hS hl
              obtain ⟨z, hz12, hL12⟩ := olp_e hL12
              have hz12 : fX9_cliqueNow_b31 st x2_2 x4_4 x3_5 = some z := hz12
              unfold fX9_cliqueNow_b31 at hz12
              refine lv_iload (pc := 31) hx hb dX9_cliqueNow_31 (lv_at hl 0 rfl) ?_
              refine lv_aload_n (pc := 33) hx hb dX9_cliqueNow_33 rfl (lv_at hl 4 rfl) ?_
              refine va_get (pc := 34) (ci := 9) (C := RX9) (T := TX9) (N := 17) hx hb hts inX9 hown hK hP 0 rfl rfl 0 (by decide) fl7 (fun _ h9 => h9) rfl dX9_cliqueNow_34 ?_
              refine lv_iconst (v := (0 : Int32)) (pc := 37) hx hb dX9_cliqueNow_37 (by decide) ?_
              refine z_iald (pc := 38) (k := 0) hx hb hK hP 1 0 rfl rfl (by decide) (by decide) dX9_cliqueNow_38 ?_
              refine lv_icmp_ge (pc := 39) (tgt := 91) hx hb dX9_cliqueNow_39 (by decide) (fun hc => ?_) (fun hc => ?_)
              · have hz12 := oif_t hz12 hc
                have hE := olp_r hz12 hL12
                cases hE
                exact ex12 _ _ _ hP hD hS (lv_sub hl [1, 2, 3, 4] rfl)
              · have hz12 := oif_f hz12 hc
                refine lv_iload_n (pc := 42) hx hb dX9_cliqueNow_42 rfl (lv_at hl 1 rfl) ?_
                refine lv_if_eq (pc := 43) (tgt := 91) hx hb dX9_cliqueNow_43 (by decide) (fun hc => ?_) (fun hc => ?_)
                · have hz12 := oif_t hz12 hc
                  have hE := olp_r hz12 hL12
                  cases hE
                  exact ex12 _ _ _ hP hD hS (lv_sub hl [1, 2, 3, 4] rfl)
                · have hz12 := oif_f hz12 hc
                  refine lv_iload_n (pc := 46) hx hb dX9_cliqueNow_46 rfl (lv_at hl 2 rfl) ?_
                  refine lv_iload (pc := 47) hx hb dX9_cliqueNow_47 (lv_at hl 0 rfl) ?_
                  obtain ⟨r_7, hC13, hz12⟩ := ob1_e hz12
                  refine zSr (pc := 49) (As := [.int x2_2, .int x4_4]) (rest := []) E (tX9_has l D cI cZ cM cS x2_2 x4_4 hC13) 2 gX9_cliqueNow_X9_has rfl rfl rfl (by decide +kernel) ⟨Nat.le_of_ble_eq_true rfl, Nat.le_of_ble_eq_true rfl⟩ hK hP [] rfl rfl hl.1 rfl (Nat.le_of_ble_eq_true rfl) dX9_cliqueNow_49 ⟨Nat.zero_le _, Nat.zero_le _⟩ ?_
                  refine lv_if_eq (pc := 52) (tgt := 79) hx hb dX9_cliqueNow_52 (by decide) (fun hc => ?_) (fun hc => ?_)
                  · have hz12 := oif_t hz12 hc
                    refine lv_iconst (v := (1 : Int32)) (pc := 79) hx hb dX9_cliqueNow_79 (by decide) ?_
                    refine lv_goto (pc := 80) (tgt := 84) hx hb dX9_cliqueNow_80 (by decide) ?_
                    refine lv_istore_n (lv' := [(3, .int (1 : Int32)), (4, .int x4_4), (2, .int x2_2), (1, .int x1_2), (0, .ref mo)]) (pc := 84) hx hb dX9_cliqueNow_84 rfl hl (by decide) rfl (fun ls hl => ?_)
                    refine lv_iinc (v := (x4_4 + (1 : Int32))) (lv' := [(4, .int (x4_4 + (1 : Int32))), (3, .int (1 : Int32)), (2, .int x2_2), (1, .int x1_2), (0, .ref mo)]) (pc := 85) hx hb dX9_cliqueNow_85 hl (k := 1) rfl rfl (by decide) rfl (fun ls hl => ?_)
                    refine lv_goto (pc := 88) (tgt := 31) hx hb dX9_cliqueNow_88 (by decide) ?_
                    exact ih _ _ _ _ _ (olp_l hz12 hL12) hP hD hS (lv_sub hl [0, 1, 2, 3, 4] rfl)
                  · have hz12 := oif_f hz12 hc
                    refine lv_iload_n (pc := 55) hx hb dX9_cliqueNow_55 rfl (lv_at hl 2 rfl) ?_
                    refine lv_iconst (v := (1 : Int32)) (pc := 56) hx hb dX9_cliqueNow_56 (by decide) ?_
                    refine lv_iload (pc := 57) hx hb dX9_cliqueNow_57 (lv_at hl 0 rfl) ?_
                    refine lv_ishl (pc := 59) hx hb dX9_cliqueNow_59 ?_
                    refine lv_iconst (v := (-1 : Int32)) (pc := 60) hx hb dX9_cliqueNow_60 (by decide) ?_
                    refine lv_ixor (pc := 61) hx hb dX9_cliqueNow_61 ?_
                    refine lv_iand (pc := 62) hx hb dX9_cliqueNow_62 ?_
                    refine lv_aload_n (pc := 63) hx hb dX9_cliqueNow_63 rfl (lv_at hl 4 rfl) ?_
                    refine va_get (pc := 64) (ci := 9) (C := RX9) (T := TX9) (N := 17) hx hb hts inX9 hown hK hP 0 rfl rfl 0 (by decide) fl7 (fun _ h9 => h9) rfl dX9_cliqueNow_64 ?_
                    refine lv_bipush (v := (16 : Int32)) (pc := 67) hx hb dX9_cliqueNow_67 (by decide) ?_
                    refine lv_iload (pc := 69) hx hb dX9_cliqueNow_69 (lv_at hl 0 rfl) ?_
                    refine lv_iadd (pc := 71) hx hb dX9_cliqueNow_71 ?_
                    obtain ⟨hg14, hz12⟩ := ogd_e hz12
                    refine va_iald (pc := 72) hx hb hK hP 1 0 rfl rfl hg14 dX9_cliqueNow_72 ?_
                    refine lv_iconst (v := (-1 : Int32)) (pc := 73) hx hb dX9_cliqueNow_73 (by decide) ?_
                    refine lv_ixor (pc := 74) hx hb dX9_cliqueNow_74 ?_
                    refine lv_iand (pc := 75) hx hb dX9_cliqueNow_75 ?_
                    refine lv_if_ne (pc := 76) (tgt := 83) hx hb dX9_cliqueNow_76 (by decide) (fun hc => ?_) (fun hc => ?_)
                    · have hz12 := oif_f hz12 hc
                      refine lv_iconst (v := (0 : Int32)) (pc := 83) hx hb dX9_cliqueNow_83 (by decide) ?_
                      refine lv_istore_n (lv' := [(3, .int (0 : Int32)), (4, .int x4_4), (2, .int x2_2), (1, .int x1_2), (0, .ref mo)]) (pc := 84) hx hb dX9_cliqueNow_84 rfl hl (by decide) rfl (fun ls hl => ?_)
                      refine lv_iinc (v := (x4_4 + (1 : Int32))) (lv' := [(4, .int (x4_4 + (1 : Int32))), (3, .int (0 : Int32)), (2, .int x2_2), (1, .int x1_2), (0, .ref mo)]) (pc := 85) hx hb dX9_cliqueNow_85 hl (k := 1) rfl rfl (by decide) rfl (fun ls hl => ?_)
                      refine lv_goto (pc := 88) (tgt := 31) hx hb dX9_cliqueNow_88 (by decide) ?_
                      exact ih _ _ _ _ _ (olp_l hz12 hL12) hP hD hS (lv_sub hl [0, 1, 2, 3, 4] rfl)
                    · have hz12 := oif_t hz12 hc
                      refine lv_iconst (v := (1 : Int32)) (pc := 79) hx hb dX9_cliqueNow_79 (by decide) ?_
                      refine lv_goto (pc := 80) (tgt := 84) hx hb dX9_cliqueNow_80 (by decide) ?_
                      refine lv_istore_n (lv' := [(3, .int (1 : Int32)), (4, .int x4_4), (2, .int x2_2), (1, .int x1_2), (0, .ref mo)]) (pc := 84) hx hb dX9_cliqueNow_84 rfl hl (by decide) rfl (fun ls hl => ?_)
                      refine lv_iinc (v := (x4_4 + (1 : Int32))) (lv' := [(4, .int (x4_4 + (1 : Int32))), (3, .int (1 : Int32)), (2, .int x2_2), (1, .int x1_2), (0, .ref mo)]) (pc := 85) hx hb dX9_cliqueNow_85 hl (k := 1) rfl rfl (by decide) rfl (fun ls hl => ?_)
                      refine lv_goto (pc := 88) (tgt := 31) hx hb dX9_cliqueNow_88 (by decide) ?_
                      exact ih _ _ _ _ _ (olp_l hz12 hL12) hP hD hS (lv_sub hl [0, 1, 2, 3, 4] rfl)
          exact lp12 oFu _ _ _ _ _ hL12 hP hD hS (lv_sub hl [0, 1, 2, 3, 4] rfl)
    exact lp9 oFu _ _ _ _ _ hL9 hP hD hS (lv_sub hl [0, 1, 2] rfl)
  · have hF := oif_f hF hc
    refine lv_iconst (v := (-1 : Int32)) (pc := 8) hx hb dX9_cliqueNow_8 (by decide) ?_
    cases hF
    exact hRet _ _ _ _ rfl dX9_cliqueNow_9 hP hD hS
def fX9_edgesNow_b4 (st : (Nat → Int32)) (x2_2 : Int32) (x1_2 : Int32) : Option ((Int32 × Int32) ⊕ (Int32)) := (if (st 0) ≤ x2_2 then (some (.inr x1_2)) else (ogd ((16 : Int32) + x2_2) 76 (ob1 (fX9_sizeOf (st (Int32.toNatClampNeg ((16 : Int32) + x2_2)))) (fun r_2 => (some (.inl ((x2_2 + (1 : Int32)), (x1_2 + r_2))))))))
def fX9_edgesNow_s4 (st : (Nat → Int32)) (sg_ : Int32 × Int32) : Option ((Int32 × Int32) ⊕ (Int32)) := fX9_edgesNow_b4 st sg_.1 sg_.2
def fX9_edgesNow (deeds : Int32) (sd : Int32) (ent : Int32) (st : (Nat → Int32)) : Option (Int32) := (ob1 (olp (fX9_edgesNow_s4 st) oFu ((0 : Int32), (0 : Int32))) (fun x1_3 => (some (x1_3 / (2 : Int32)))))
abbrev wX9_edgesNow (cI cZ cM cS : ClassId) (mo mst mpa mim mik mbi mbk mnr mia min mas mpr mfa mme mse : Nat) (deeds : Int32) (sd : Int32) (ent : Int32) (st : (Nat → Int32)) : va_W := [(mo, .inr (9, [.ref mst, .ref mpa, .int deeds, .ref mim, .ref mik, .int sd, .ref mbi, .ref mbk, .int ent, .ref mnr, .ref mia, .ref min, .ref mas, .ref mpr, .ref mfa, .ref mme, .ref mse])), (mst, .inl (cI, 76, .inl st))]
set_option maxHeartbeats 4000000 in
set_option maxRecDepth 100000 in
theorem tX9_edgesNow (l : Launch) (D : va_G) (cI cZ cM cS : ClassId) (mo mst mpa mim mik mbi mbk mnr mia min mas mpr mfa mme mse : Nat) (deeds : Int32) (sd : Int32) (ent : Int32) (st : (Nat → Int32)) {r : Int32} (hF : fX9_edgesNow deeds sd ent st = some r) : zCR l yX9_edgesNow wsX9_edgesNow (zRm 1 22) D (zTy cI cZ cM cS) [.ref mo] (wX9_edgesNow cI cZ cM cS mo mst mpa mim mik mbi mbk mnr mia min mas mpr mfa mme mse deeds sd ent st) r := by
  unfold fX9_edgesNow at hF
  refine zCR_of (cc := cX9_edgesNow) (maxL := 3) (own := RX9) (by decide +kernel) rfl rfl (Nat.le_of_ble_eq_true rfl) (fun p e s m args below meth c Q ls E hK hP hRet hl => ?_)
  have hl : lv_has ls 3 [(0, .ref mo)] := hl
  obtain ⟨hx, hb, hml, hown, hts⟩ := id E
  have inX9 : ∀ w ∈ u_ws RX9 TX9 17, w ∈ wsX9_edgesNow := by decide +kernel
  have fl7 := hts (.fieldLink RX9 7 "SplitClassesModel" "st" "[I") (by decide +kernel)
  refine lv_iconst (v := (0 : Int32)) (pc := 0) hx hb dX9_edgesNow_0 (by decide) ?_
  refine lv_istore_n (lv' := [(1, .int (0 : Int32)), (0, .ref mo)]) (pc := 1) hx hb dX9_edgesNow_1 rfl hl (by decide) rfl (fun ls hl => ?_)
  refine lv_iconst (v := (0 : Int32)) (pc := 2) hx hb dX9_edgesNow_2 (by decide) ?_
  refine lv_istore_n (lv' := [(2, .int (0 : Int32)), (1, .int (0 : Int32)), (0, .ref mo)]) (pc := 3) hx hb dX9_edgesNow_3 rfl hl (by decide) rfl (fun ls hl => ?_)
  obtain ⟨x1_3, hL3, hF⟩ := ob1_e hF
  have ex3 : ∀ (ls : Array Slot), lv_has ls 3 [(1, .int x1_3)] → W p l e (zRm 1 22) s m args below meth c s.heap [] 0 0 Q (F0 m 35 ls []) := by
    intro ls hl
    refine lv_iload_n (pc := 35) hx hb dX9_edgesNow_35 rfl (lv_at hl 0 rfl) ?_
    refine lv_iconst (v := (2 : Int32)) (pc := 36) hx hb dX9_edgesNow_36 (by decide) ?_
    refine lv_idiv (pc := 37) hx hb dX9_edgesNow_37 (by decide) ?_
    cases hF
    exact hRet _ _ rfl dX9_edgesNow_38
  have lp3 : ∀ (n : Nat) (x2_2 : Int32) (x1_2 : Int32) (ls : Array Slot), olp (fX9_edgesNow_s4 st) n (x2_2, x1_2) = some x1_3 → lv_has ls 3 [(2, .int x2_2), (1, .int x1_2), (0, .ref mo)] → W p l e (zRm 1 22) s m args below meth c s.heap [] 0 0 Q (F0 m 4 ls []) := by
    intro n
    induction n with
    | zero => intro x2_2 x1_2 ls hL; exact olp_0 hL
    | succ n ih =>
      intro x2_2 x1_2 ls hL3 hl
      obtain ⟨z, hz3, hL3⟩ := olp_e hL3
      have hz3 : fX9_edgesNow_b4 st x2_2 x1_2 = some z := hz3
      unfold fX9_edgesNow_b4 at hz3
      refine lv_iload_n (pc := 4) hx hb dX9_edgesNow_4 rfl (lv_at hl 0 rfl) ?_
      refine lv_aload_n (pc := 5) hx hb dX9_edgesNow_5 rfl (lv_at hl 2 rfl) ?_
      refine va_get (pc := 6) (ci := 9) (C := RX9) (T := TX9) (N := 17) hx hb hts inX9 hown hK hP 0 rfl rfl 0 (by decide) fl7 (fun _ h9 => h9) rfl dX9_edgesNow_6 ?_
      refine lv_iconst (v := (0 : Int32)) (pc := 9) hx hb dX9_edgesNow_9 (by decide) ?_
      refine z_iald (pc := 10) (k := 0) hx hb hK hP 1 0 rfl rfl (by decide) (by decide) dX9_edgesNow_10 ?_
      refine lv_icmp_ge (pc := 11) (tgt := 35) hx hb dX9_edgesNow_11 (by decide) (fun hc => ?_) (fun hc => ?_)
      · have hz3 := oif_t hz3 hc
        have hE := olp_r hz3 hL3
        cases hE
        exact ex3 _ (lv_sub hl [1] rfl)
      · have hz3 := oif_f hz3 hc
        refine lv_iload_n (pc := 14) hx hb dX9_edgesNow_14 rfl (lv_at hl 1 rfl) ?_
        refine lv_aload_n (pc := 15) hx hb dX9_edgesNow_15 rfl (lv_at hl 2 rfl) ?_
        refine va_get (pc := 16) (ci := 9) (C := RX9) (T := TX9) (N := 17) hx hb hts inX9 hown hK hP 0 rfl rfl 0 (by decide) fl7 (fun _ h9 => h9) rfl dX9_edgesNow_16 ?_
        refine lv_bipush (v := (16 : Int32)) (pc := 19) hx hb dX9_edgesNow_19 (by decide) ?_
        refine lv_iload_n (pc := 21) hx hb dX9_edgesNow_21 rfl (lv_at hl 0 rfl) ?_
        refine lv_iadd (pc := 22) hx hb dX9_edgesNow_22 ?_
        obtain ⟨hg4, hz3⟩ := ogd_e hz3
        refine va_iald (pc := 23) hx hb hK hP 1 0 rfl rfl hg4 dX9_edgesNow_23 ?_
        obtain ⟨r_2, hC5, hz3⟩ := ob1_e hz3
        refine zSr (pc := 24) (As := [.int (st (Int32.toNatClampNeg ((16 : Int32) + x2_2)))]) (rest := [.int x1_2]) E (tX9_sizeOf l D cI cZ cM cS (st (Int32.toNatClampNeg ((16 : Int32) + x2_2))) hC5) 1 gX9_edgesNow_X9_sizeOf rfl rfl rfl (by decide +kernel) ⟨Nat.le_of_ble_eq_true rfl, Nat.le_of_ble_eq_true rfl⟩ hK hP [] rfl rfl hl.1 rfl (Nat.le_of_ble_eq_true rfl) dX9_edgesNow_24 ⟨Nat.zero_le _, Nat.zero_le _⟩ ?_
        refine lv_iadd (pc := 27) hx hb dX9_edgesNow_27 ?_
        refine lv_istore_n (lv' := [(1, .int (x1_2 + r_2)), (2, .int x2_2), (0, .ref mo)]) (pc := 28) hx hb dX9_edgesNow_28 rfl hl (by decide) rfl (fun ls hl => ?_)
        refine lv_iinc (v := (x2_2 + (1 : Int32))) (lv' := [(2, .int (x2_2 + (1 : Int32))), (1, .int (x1_2 + r_2)), (0, .ref mo)]) (pc := 29) hx hb dX9_edgesNow_29 hl (k := 1) rfl rfl (by decide) rfl (fun ls hl => ?_)
        refine lv_goto (pc := 32) (tgt := 4) hx hb dX9_edgesNow_32 (by decide) ?_
        exact ih _ _ _ (olp_l hz3 hL3) (lv_sub hl [0, 1, 2] rfl)
  exact lp3 oFu _ _ _ hL3 (lv_sub hl [0, 1, 2] rfl)
def fX9_wrongNow_b2 (ent : Int32) (bits : (Nat → Int32)) (deeds : Int32) (sd : Int32) (st : (Nat → Int32)) (bcls : (Nat → Int32)) (x1_2 : Int32) : Option ((Int32) ⊕ (Int32)) := (if ent ≤ x1_2 then (some (.inr (-1 : Int32))) else (ogd x1_2 20 (ob1 (fX9_isItem (bits (Int32.toNatClampNeg x1_2)) deeds sd ent st) (fun r_2 => (if r_2 = (0 : Int32) then (some (.inr x1_2)) else (ogd x1_2 20 (ogd ((64 : Int32) + (bits (Int32.toNatClampNeg x1_2))) 76 (ogd x1_2 20 (if (st (Int32.toNatClampNeg ((64 : Int32) + (bits (Int32.toNatClampNeg x1_2))))) = (bcls (Int32.toNatClampNeg x1_2)) then (some (.inl (x1_2 + (1 : Int32)))) else (some (.inr x1_2)))))))))))
def fX9_wrongNow_s2 (ent : Int32) (bits : (Nat → Int32)) (deeds : Int32) (sd : Int32) (st : (Nat → Int32)) (bcls : (Nat → Int32)) (sg_ : Int32) : Option ((Int32) ⊕ (Int32)) := fX9_wrongNow_b2 ent bits deeds sd st bcls sg_
def fX9_wrongNow (deeds : Int32) (sd : Int32) (ent : Int32) (st : (Nat → Int32)) (bits : (Nat → Int32)) (bcls : (Nat → Int32)) : Option (Int32) := (olp (fX9_wrongNow_s2 ent bits deeds sd st bcls) oFu (0 : Int32))
abbrev wX9_wrongNow (cI cZ cM cS : ClassId) (mo mst mpa mim mik mbi mbk mnr mia min mas mpr mfa mme mse : Nat) (deeds : Int32) (sd : Int32) (ent : Int32) (st : (Nat → Int32)) (bits : (Nat → Int32)) (bcls : (Nat → Int32)) : va_W := [(mo, .inr (9, [.ref mst, .ref mpa, .int deeds, .ref mim, .ref mik, .int sd, .ref mbi, .ref mbk, .int ent, .ref mnr, .ref mia, .ref min, .ref mas, .ref mpr, .ref mfa, .ref mme, .ref mse])), (mst, .inl (cI, 76, .inl st)), (mbi, .inl (cI, 20, .inl bits)), (mbk, .inl (cI, 20, .inl bcls))]
set_option maxHeartbeats 4000000 in
set_option maxRecDepth 100000 in
theorem tX9_wrongNow (l : Launch) (D : va_G) (cI cZ cM cS : ClassId) (mo mst mpa mim mik mbi mbk mnr mia min mas mpr mfa mme mse : Nat) (deeds : Int32) (sd : Int32) (ent : Int32) (st : (Nat → Int32)) (bits : (Nat → Int32)) (bcls : (Nat → Int32)) {r : Int32} (hF : fX9_wrongNow deeds sd ent st bits bcls = some r) : zCR l yX9_wrongNow wsX9_wrongNow (zRm 2 43) D (zTy cI cZ cM cS) [.ref mo] (wX9_wrongNow cI cZ cM cS mo mst mpa mim mik mbi mbk mnr mia min mas mpr mfa mme mse deeds sd ent st bits bcls) r := by
  unfold fX9_wrongNow at hF
  refine zCR_of (cc := cX9_wrongNow) (maxL := 2) (own := RX9) (by decide +kernel) rfl rfl (Nat.le_of_ble_eq_true rfl) (fun p e s m args below meth c Q ls E hK hP hRet hl => ?_)
  have hl : lv_has ls 2 [(0, .ref mo)] := hl
  obtain ⟨hx, hb, hml, hown, hts⟩ := id E
  have inX9 : ∀ w ∈ u_ws RX9 TX9 17, w ∈ wsX9_wrongNow := by decide +kernel
  have fl143 := hts (.fieldLink RX9 143 "SplitClassesModel" "entries" "I") (by decide +kernel)
  have fl23 := hts (.fieldLink RX9 23 "SplitClassesModel" "bookItem" "[I") (by decide +kernel)
  have fl26 := hts (.fieldLink RX9 26 "SplitClassesModel" "bookClass" "[I") (by decide +kernel)
  have fl7 := hts (.fieldLink RX9 7 "SplitClassesModel" "st" "[I") (by decide +kernel)
  refine lv_iconst (v := (0 : Int32)) (pc := 0) hx hb dX9_wrongNow_0 (by decide) ?_
  refine lv_istore_n (lv' := [(1, .int (0 : Int32)), (0, .ref mo)]) (pc := 1) hx hb dX9_wrongNow_1 rfl hl (by decide) rfl (fun ls hl => ?_)
  have hL6 := hF
  have lp6 : ∀ (n : Nat) (x1_2 : Int32) (ls : Array Slot), olp (fX9_wrongNow_s2 ent bits deeds sd st bcls) n x1_2 = some r → lv_has ls 2 [(1, .int x1_2), (0, .ref mo)] → W p l e (zRm 2 43) s m args below meth c s.heap [] 0 0 Q (F0 m 2 ls []) := by
    intro n
    induction n with
    | zero => intro x1_2 ls hL; exact olp_0 hL
    | succ n ih =>
      intro x1_2 ls hL6 hl
      obtain ⟨z, hz6, hL6⟩ := olp_e hL6
      have hz6 : fX9_wrongNow_b2 ent bits deeds sd st bcls x1_2 = some z := hz6
      unfold fX9_wrongNow_b2 at hz6
      refine lv_iload_n (pc := 2) hx hb dX9_wrongNow_2 rfl (lv_at hl 0 rfl) ?_
      refine lv_aload_n (pc := 3) hx hb dX9_wrongNow_3 rfl (lv_at hl 1 rfl) ?_
      refine va_get (pc := 4) (ci := 9) (C := RX9) (T := TX9) (N := 17) hx hb hts inX9 hown hK hP 0 rfl rfl 8 (by decide) fl143 (fun _ h9 => h9) rfl dX9_wrongNow_4 ?_
      refine lv_icmp_ge (pc := 7) (tgt := 54) hx hb dX9_wrongNow_7 (by decide) (fun hc => ?_) (fun hc => ?_)
      · have hz6 := oif_t hz6 hc
        refine lv_iconst (v := (-1 : Int32)) (pc := 54) hx hb dX9_wrongNow_54 (by decide) ?_
        have hE := olp_r hz6 hL6
        cases hE
        exact hRet _ _ rfl dX9_wrongNow_55
      · have hz6 := oif_f hz6 hc
        refine lv_aload_n (pc := 10) hx hb dX9_wrongNow_10 rfl (lv_at hl 1 rfl) ?_
        refine lv_aload_n (pc := 11) hx hb dX9_wrongNow_11 rfl (lv_at hl 1 rfl) ?_
        refine va_get (pc := 12) (ci := 9) (C := RX9) (T := TX9) (N := 17) hx hb hts inX9 hown hK hP 0 rfl rfl 6 (by decide) fl23 (fun _ h9 => h9) rfl dX9_wrongNow_12 ?_
        refine lv_iload_n (pc := 15) hx hb dX9_wrongNow_15 rfl (lv_at hl 0 rfl) ?_
        obtain ⟨hg7, hz6⟩ := ogd_e hz6
        refine va_iald (pc := 16) hx hb hK hP 2 0 rfl rfl hg7 dX9_wrongNow_16 ?_
        obtain ⟨r_2, hC8, hz6⟩ := ob1_e hz6
        refine zVr (pc := 17) (As := [.int (bits (Int32.toNatClampNeg x1_2))]) (rest := []) E (tX9_isItem l D cI cZ cM cS mo mst mpa mim mik mbi mbk mnr mia min mas mpr mfa mme mse deeds sd ent st (bits (Int32.toNatClampNeg x1_2)) hC8) 1 gX9_wrongNow_X9_isItem rfl rfl rfl (by decide +kernel) ⟨Nat.le_of_ble_eq_true rfl, Nat.le_of_ble_eq_true rfl⟩ hK hP [0, 1] rfl 0 9 rfl rfl rfl rfl hl.1 rfl (Nat.le_of_ble_eq_true rfl) dX9_wrongNow_17 ⟨Nat.zero_le _, Nat.zero_le _⟩ ?_
        refine lv_if_eq (pc := 20) (tgt := 46) hx hb dX9_wrongNow_20 (by decide) (fun hc => ?_) (fun hc => ?_)
        · have hz6 := oif_t hz6 hc
          refine lv_iload_n (pc := 46) hx hb dX9_wrongNow_46 rfl (lv_at hl 0 rfl) ?_
          have hE := olp_r hz6 hL6
          cases hE
          exact hRet _ _ rfl dX9_wrongNow_47
        · have hz6 := oif_f hz6 hc
          refine lv_aload_n (pc := 23) hx hb dX9_wrongNow_23 rfl (lv_at hl 1 rfl) ?_
          refine va_get (pc := 24) (ci := 9) (C := RX9) (T := TX9) (N := 17) hx hb hts inX9 hown hK hP 0 rfl rfl 0 (by decide) fl7 (fun _ h9 => h9) rfl dX9_wrongNow_24 ?_
          refine lv_bipush (v := (64 : Int32)) (pc := 27) hx hb dX9_wrongNow_27 (by decide) ?_
          refine lv_aload_n (pc := 29) hx hb dX9_wrongNow_29 rfl (lv_at hl 1 rfl) ?_
          refine va_get (pc := 30) (ci := 9) (C := RX9) (T := TX9) (N := 17) hx hb hts inX9 hown hK hP 0 rfl rfl 6 (by decide) fl23 (fun _ h9 => h9) rfl dX9_wrongNow_30 ?_
          refine lv_iload_n (pc := 33) hx hb dX9_wrongNow_33 rfl (lv_at hl 0 rfl) ?_
          obtain ⟨hg9, hz6⟩ := ogd_e hz6
          refine va_iald (pc := 34) hx hb hK hP 2 0 rfl rfl hg9 dX9_wrongNow_34 ?_
          refine lv_iadd (pc := 35) hx hb dX9_wrongNow_35 ?_
          obtain ⟨hg10, hz6⟩ := ogd_e hz6
          refine va_iald (pc := 36) hx hb hK hP 1 0 rfl rfl hg10 dX9_wrongNow_36 ?_
          refine lv_aload_n (pc := 37) hx hb dX9_wrongNow_37 rfl (lv_at hl 1 rfl) ?_
          refine va_get (pc := 38) (ci := 9) (C := RX9) (T := TX9) (N := 17) hx hb hts inX9 hown hK hP 0 rfl rfl 7 (by decide) fl26 (fun _ h9 => h9) rfl dX9_wrongNow_38 ?_
          refine lv_iload_n (pc := 41) hx hb dX9_wrongNow_41 rfl (lv_at hl 0 rfl) ?_
          obtain ⟨hg11, hz6⟩ := ogd_e hz6
          refine va_iald (pc := 42) hx hb hK hP 3 0 rfl rfl hg11 dX9_wrongNow_42 ?_
          refine lv_icmp_eq (pc := 43) (tgt := 48) hx hb dX9_wrongNow_43 (by decide) (fun hc => ?_) (fun hc => ?_)
          · have hz6 := oif_t hz6 hc
            refine lv_iinc (v := (x1_2 + (1 : Int32))) (lv' := [(1, .int (x1_2 + (1 : Int32))), (0, .ref mo)]) (pc := 48) hx hb dX9_wrongNow_48 hl (k := 0) rfl rfl (by decide) rfl (fun ls hl => ?_)
            refine lv_goto (pc := 51) (tgt := 2) hx hb dX9_wrongNow_51 (by decide) ?_
            exact ih _ _ (olp_l hz6 hL6) (lv_sub hl [0, 1] rfl)
          · have hz6 := oif_f hz6 hc
            refine lv_iload_n (pc := 46) hx hb dX9_wrongNow_46 rfl (lv_at hl 0 rfl) ?_
            have hE := olp_r hz6 hL6
            cases hE
            exact hRet _ _ rfl dX9_wrongNow_47
  exact lp6 oFu _ _ hL6 (lv_sub hl [0, 1] rfl)
